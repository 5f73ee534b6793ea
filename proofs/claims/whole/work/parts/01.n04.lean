theorem dX4_learn_42 : decode cX4_learn 42 = .ok (.imul, 1) := by decide +kernel
theorem dX4_learn_43 : decode cX4_learn 43 = .ok (.iconst 1, 1) := by decide +kernel
theorem dX4_learn_44 : decode cX4_learn 44 = .ok (.isub, 1) := by decide +kernel
theorem dX4_learn_45 : decode cX4_learn 45 = .ok (.iand, 1) := by decide +kernel
theorem dX4_learn_46 : decode cX4_learn 46 = .ok (.putfield 31, 3) := by decide +kernel
theorem dX4_learn_49 : decode cX4_learn 49 = .ok (.return_, 1) := by decide +kernel
theorem dX4_latest_0 : decode cX4_latest 0 = .ok (.bipush 13, 2) := by decide +kernel
theorem dX4_latest_2 : decode cX4_latest 2 = .ok (.istore_n 1, 1) := by decide +kernel
theorem dX4_latest_3 : decode cX4_latest 3 = .ok (.iload_n 1, 1) := by decide +kernel
theorem dX4_latest_4 : decode cX4_latest 4 = .ok (.ifCond .lt 22, 3) := by decide +kernel
theorem dX4_latest_7 : decode cX4_latest 7 = .ok (.iload_n 0, 1) := by decide +kernel
theorem dX4_latest_8 : decode cX4_latest 8 = .ok (.iload_n 1, 1) := by decide +kernel
theorem dX4_latest_9 : decode cX4_latest 9 = .ok (.ishr, 1) := by decide +kernel
theorem dX4_latest_10 : decode cX4_latest 10 = .ok (.iconst 1, 1) := by decide +kernel
theorem dX4_latest_11 : decode cX4_latest 11 = .ok (.iand, 1) := by decide +kernel
theorem dX4_latest_12 : decode cX4_latest 12 = .ok (.iconst 1, 1) := by decide +kernel
theorem dX4_latest_13 : decode cX4_latest 13 = .ok (.if_icmp .ne 7, 3) := by decide +kernel
theorem dX4_latest_16 : decode cX4_latest 16 = .ok (.iconst 1, 1) := by decide +kernel
theorem dX4_latest_17 : decode cX4_latest 17 = .ok (.iload_n 1, 1) := by decide +kernel
theorem dX4_latest_18 : decode cX4_latest 18 = .ok (.ishl, 1) := by decide +kernel
theorem dX4_latest_19 : decode cX4_latest 19 = .ok (.ireturn, 1) := by decide +kernel
theorem dX4_latest_20 : decode cX4_latest 20 = .ok (.iinc 1 (-1), 3) := by decide +kernel
theorem dX4_latest_23 : decode cX4_latest 23 = .ok (.goto (-20), 3) := by decide +kernel
theorem dX4_latest_26 : decode cX4_latest 26 = .ok (.iconst 0, 1) := by decide +kernel
theorem dX4_latest_27 : decode cX4_latest 27 = .ok (.ireturn, 1) := by decide +kernel
theorem dX5_init_0 : decode cX5_init 0 = .ok (.aload_n 0, 1) := by decide +kernel
theorem dX5_init_1 : decode cX5_init 1 = .ok (.invokespecial 3, 3) := by decide +kernel
theorem dX5_init_4 : decode cX5_init 4 = .ok (.aload_n 0, 1) := by decide +kernel
theorem dX5_init_5 : decode cX5_init 5 = .ok (.bipush 60, 2) := by decide +kernel
theorem dX5_init_7 : decode cX5_init 7 = .ok (.newarray .int, 2) := by decide +kernel
theorem dX5_init_9 : decode cX5_init 9 = .ok (.putfield 9, 3) := by decide +kernel
theorem dX5_init_12 : decode cX5_init 12 = .ok (.aload_n 0, 1) := by decide +kernel
theorem dX5_init_13 : decode cX5_init 13 = .ok (.bipush 60, 2) := by decide +kernel
theorem dX5_init_15 : decode cX5_init 15 = .ok (.newarray .int, 2) := by decide +kernel
theorem dX5_init_17 : decode cX5_init 17 = .ok (.putfield 15, 3) := by decide +kernel
theorem dX5_init_20 : decode cX5_init 20 = .ok (.aload_n 0, 1) := by decide +kernel
theorem dX5_init_21 : decode cX5_init 21 = .ok (.bipush 60, 2) := by decide +kernel
theorem dX5_init_23 : decode cX5_init 23 = .ok (.newarray .int, 2) := by decide +kernel
theorem dX5_init_25 : decode cX5_init 25 = .ok (.putfield 18, 3) := by decide +kernel
theorem dX5_init_28 : decode cX5_init 28 = .ok (.aload_n 0, 1) := by decide +kernel
theorem dX5_init_29 : decode cX5_init 29 = .ok (.sipush 840, 3) := by decide +kernel
theorem dX5_init_32 : decode cX5_init 32 = .ok (.newarray .int, 2) := by decide +kernel
theorem dX5_init_34 : decode cX5_init 34 = .ok (.putfield 21, 3) := by decide +kernel
theorem dX5_init_37 : decode cX5_init 37 = .ok (.return_, 1) := by decide +kernel
theorem dX5_names_0 : decode cX5_names 0 = .ok (.aload_n 0, 1) := by decide +kernel
theorem dX5_names_1 : decode cX5_names 1 = .ok (.getfield 24, 3) := by decide +kernel
theorem dX5_names_4 : decode cX5_names 4 = .ok (.ireturn, 1) := by decide +kernel
theorem dX5_allNames_0 : decode cX5_allNames 0 = .ok (.iconst 1, 1) := by decide +kernel
theorem dX5_allNames_1 : decode cX5_allNames 1 = .ok (.aload_n 0, 1) := by decide +kernel
theorem dX5_allNames_2 : decode cX5_allNames 2 = .ok (.getfield 24, 3) := by decide +kernel
theorem dX5_allNames_5 : decode cX5_allNames 5 = .ok (.ishl, 1) := by decide +kernel
theorem dX5_allNames_6 : decode cX5_allNames 6 = .ok (.iconst 1, 1) := by decide +kernel
theorem dX5_allNames_7 : decode cX5_allNames 7 = .ok (.isub, 1) := by decide +kernel
theorem dX5_allNames_8 : decode cX5_allNames 8 = .ok (.ireturn, 1) := by decide +kernel
theorem dX5_isName_0 : decode cX5_isName 0 = .ok (.iload_n 1, 1) := by decide +kernel
theorem dX5_isName_1 : decode cX5_isName 1 = .ok (.ifCond .lt 15, 3) := by decide +kernel
theorem dX5_isName_4 : decode cX5_isName 4 = .ok (.iload_n 1, 1) := by decide +kernel
theorem dX5_isName_5 : decode cX5_isName 5 = .ok (.aload_n 0, 1) := by decide +kernel
theorem dX5_isName_6 : decode cX5_isName 6 = .ok (.getfield 24, 3) := by decide +kernel
theorem dX5_isName_9 : decode cX5_isName 9 = .ok (.if_icmp .ge 7, 3) := by decide +kernel
theorem dX5_isName_12 : decode cX5_isName 12 = .ok (.iconst 1, 1) := by decide +kernel
theorem dX5_isName_13 : decode cX5_isName 13 = .ok (.goto 4, 3) := by decide +kernel
theorem dX5_isName_16 : decode cX5_isName 16 = .ok (.iconst 0, 1) := by decide +kernel
theorem dX5_isName_17 : decode cX5_isName 17 = .ok (.ireturn, 1) := by decide +kernel
theorem dX5_addName_0 : decode cX5_addName 0 = .ok (.aload_n 0, 1) := by decide +kernel
theorem dX5_addName_1 : decode cX5_addName 1 = .ok (.getfield 24, 3) := by decide +kernel
theorem dX5_addName_4 : decode cX5_addName 4 = .ok (.istore_n 1, 1) := by decide +kernel
theorem dX5_addName_5 : decode cX5_addName 5 = .ok (.aload_n 0, 1) := by decide +kernel
theorem dX5_addName_6 : decode cX5_addName 6 = .ok (.dup, 1) := by decide +kernel
theorem dX5_addName_7 : decode cX5_addName 7 = .ok (.getfield 24, 3) := by decide +kernel
theorem dX5_addName_10 : decode cX5_addName 10 = .ok (.iconst 1, 1) := by decide +kernel
theorem dX5_addName_11 : decode cX5_addName 11 = .ok (.iadd, 1) := by decide +kernel
theorem dX5_addName_12 : decode cX5_addName 12 = .ok (.putfield 24, 3) := by decide +kernel
theorem dX5_addName_15 : decode cX5_addName 15 = .ok (.aload_n 0, 1) := by decide +kernel
theorem dX5_addName_16 : decode cX5_addName 16 = .ok (.aload_n 0, 1) := by decide +kernel
theorem dX5_addName_17 : decode cX5_addName 17 = .ok (.getfield 28, 3) := by decide +kernel
theorem dX5_addName_20 : decode cX5_addName 20 = .ok (.putfield 32, 3) := by decide +kernel
theorem dX5_addName_23 : decode cX5_addName 23 = .ok (.iload_n 1, 1) := by decide +kernel
theorem dX5_addName_24 : decode cX5_addName 24 = .ok (.ireturn, 1) := by decide +kernel
theorem dX5_isFull_0 : decode cX5_isFull 0 = .ok (.aload_n 0, 1) := by decide +kernel
theorem dX5_isFull_1 : decode cX5_isFull 1 = .ok (.getfield 35, 3) := by decide +kernel
theorem dX5_isFull_4 : decode cX5_isFull 4 = .ok (.bipush 60, 2) := by decide +kernel
theorem dX5_isFull_6 : decode cX5_isFull 6 = .ok (.if_icmp .lt 7, 3) := by decide +kernel
theorem dX5_isFull_9 : decode cX5_isFull 9 = .ok (.iconst 1, 1) := by decide +kernel
theorem dX5_isFull_10 : decode cX5_isFull 10 = .ok (.goto 4, 3) := by decide +kernel
theorem dX5_isFull_13 : decode cX5_isFull 13 = .ok (.iconst 0, 1) := by decide +kernel
theorem dX5_isFull_14 : decode cX5_isFull 14 = .ok (.ireturn, 1) := by decide +kernel
theorem dX5_numbersGiven_0 : decode cX5_numbersGiven 0 = .ok (.aload_n 0, 1) := by decide +kernel
theorem dX5_numbersGiven_1 : decode cX5_numbersGiven 1 = .ok (.getfield 35, 3) := by decide +kernel
theorem dX5_numbersGiven_4 : decode cX5_numbersGiven 4 = .ok (.ireturn, 1) := by decide +kernel
theorem dX5_stands_0 : decode cX5_stands 0 = .ok (.iload_n 1, 1) := by decide +kernel
theorem dX5_stands_1 : decode cX5_stands 1 = .ok (.ifCond .lt 28, 3) := by decide +kernel
theorem dX5_stands_4 : decode cX5_stands 4 = .ok (.iload_n 1, 1) := by decide +kernel
theorem dX5_stands_5 : decode cX5_stands 5 = .ok (.aload_n 0, 1) := by decide +kernel
theorem dX5_stands_6 : decode cX5_stands 6 = .ok (.getfield 35, 3) := by decide +kernel
theorem dX5_stands_9 : decode cX5_stands 9 = .ok (.if_icmp .ge 20, 3) := by decide +kernel
theorem dX5_stands_12 : decode cX5_stands 12 = .ok (.aload_n 0, 1) := by decide +kernel
theorem dX5_stands_13 : decode cX5_stands 13 = .ok (.getfield 28, 3) := by decide +kernel
theorem dX5_stands_16 : decode cX5_stands 16 = .ok (.iload_n 1, 1) := by decide +kernel
theorem dX5_stands_17 : decode cX5_stands 17 = .ok (.lshr, 1) := by decide +kernel
theorem dX5_stands_18 : decode cX5_stands 18 = .ok (.lconst 1, 1) := by decide +kernel
theorem dX5_stands_19 : decode cX5_stands 19 = .ok (.land, 1) := by decide +kernel
theorem dX5_stands_20 : decode cX5_stands 20 = .ok (.lconst 1, 1) := by decide +kernel
theorem dX5_stands_21 : decode cX5_stands 21 = .ok (.lcmp, 1) := by decide +kernel
theorem dX5_stands_22 : decode cX5_stands 22 = .ok (.ifCond .ne 7, 3) := by decide +kernel
theorem dX5_stands_25 : decode cX5_stands 25 = .ok (.iconst 1, 1) := by decide +kernel
theorem dX5_stands_26 : decode cX5_stands 26 = .ok (.goto 4, 3) := by decide +kernel
theorem dX5_stands_29 : decode cX5_stands 29 = .ok (.iconst 0, 1) := by decide +kernel
theorem dX5_stands_30 : decode cX5_stands 30 = .ok (.ireturn, 1) := by decide +kernel
set_option maxRecDepth 20000 in
theorem ggX5_isRow_X5_stands : GoodIn wsX5_isRow wsX5_stands := goodIn_r _ [6, 7, 8, 9, 10, 11, 12, 13, 14, 15, 16, 17] (by decide +kernel) (by decide +kernel)
set_option maxRecDepth 20000 in
theorem gX5_isRow_X5_stands : GoodIn wsX5_isRow (wsV RX5 38 RX5 yX5_stands wsX5_stands) := goodIn_app (goodIn_of _ (by decide +kernel)) ggX5_isRow_X5_stands
theorem dX5_isRow_0 : decode cX5_isRow 0 = .ok (.aload_n 0, 1) := by decide +kernel
theorem dX5_isRow_1 : decode cX5_isRow 1 = .ok (.iload_n 1, 1) := by decide +kernel
theorem dX5_isRow_2 : decode cX5_isRow 2 = .ok (.invokevirtual 38, 3) := by decide +kernel
theorem dX5_isRow_5 : decode cX5_isRow 5 = .ok (.ifCond .eq 20, 3) := by decide +kernel
theorem dX5_isRow_8 : decode cX5_isRow 8 = .ok (.aload_n 0, 1) := by decide +kernel
theorem dX5_isRow_9 : decode cX5_isRow 9 = .ok (.getfield 42, 3) := by decide +kernel
theorem dX5_isRow_12 : decode cX5_isRow 12 = .ok (.iload_n 1, 1) := by decide +kernel
theorem dX5_isRow_13 : decode cX5_isRow 13 = .ok (.lshr, 1) := by decide +kernel
theorem dX5_isRow_14 : decode cX5_isRow 14 = .ok (.lconst 1, 1) := by decide +kernel
theorem dX5_isRow_15 : decode cX5_isRow 15 = .ok (.land, 1) := by decide +kernel
theorem dX5_isRow_16 : decode cX5_isRow 16 = .ok (.lconst 1, 1) := by decide +kernel
theorem dX5_isRow_17 : decode cX5_isRow 17 = .ok (.lcmp, 1) := by decide +kernel
theorem dX5_isRow_18 : decode cX5_isRow 18 = .ok (.ifCond .ne 7, 3) := by decide +kernel
theorem dX5_isRow_21 : decode cX5_isRow 21 = .ok (.iconst 1, 1) := by decide +kernel
theorem dX5_isRow_22 : decode cX5_isRow 22 = .ok (.goto 4, 3) := by decide +kernel
theorem dX5_isRow_25 : decode cX5_isRow 25 = .ok (.iconst 0, 1) := by decide +kernel
theorem dX5_isRow_26 : decode cX5_isRow 26 = .ok (.ireturn, 1) := by decide +kernel
set_option maxRecDepth 20000 in
theorem ggX5_howMany_J13_bitCount_95d88 : GoodIn wsX5_howMany wsJ13_bitCount_95d88 := goodIn_r _ [5, 6, 7, 8] (by decide +kernel) (by decide +kernel)
set_option maxRecDepth 20000 in
theorem gX5_howMany_J13_bitCount_95d88 : GoodIn wsX5_howMany (va_wsS RX5 45 yJ13_bitCount_95d88 wsJ13_bitCount_95d88) := goodIn_app (goodIn_of _ (by decide +kernel)) ggX5_howMany_J13_bitCount_95d88
theorem dX5_howMany_0 : decode cX5_howMany 0 = .ok (.aload_n 0, 1) := by decide +kernel
theorem dX5_howMany_1 : decode cX5_howMany 1 = .ok (.getfield 28, 3) := by decide +kernel
theorem dX5_howMany_4 : decode cX5_howMany 4 = .ok (.invokestatic 45, 3) := by decide +kernel
theorem dX5_howMany_7 : decode cX5_howMany 7 = .ok (.ireturn, 1) := by decide +kernel
theorem dX5_standing_0 : decode cX5_standing 0 = .ok (.aload_n 0, 1) := by decide +kernel
theorem dX5_standing_1 : decode cX5_standing 1 = .ok (.getfield 28, 3) := by decide +kernel
theorem dX5_standing_4 : decode cX5_standing 4 = .ok (.lreturn, 1) := by decide +kernel
set_option maxRecDepth 20000 in
theorem ggX5_addClause_X5_place : GoodIn wsX5_addClause wsX5_place := goodIn_r _ [8, 1, 9, 10, 11, 12, 13, 14, 15, 16, 17, 18, 19] (by decide +kernel) (by decide +kernel)
set_option maxRecDepth 20000 in
theorem gX5_addClause_X5_place : GoodIn wsX5_addClause (wsV RX5 51 RX5 yX5_place wsX5_place) := goodIn_app (goodIn_of _ (by decide +kernel)) ggX5_addClause_X5_place
theorem dX5_addClause_0 : decode cX5_addClause 0 = .ok (.aload_n 0, 1) := by decide +kernel
theorem dX5_addClause_1 : decode cX5_addClause 1 = .ok (.getfield 35, 3) := by decide +kernel
theorem dX5_addClause_4 : decode cX5_addClause 4 = .ok (.istore_n 3, 1) := by decide +kernel
theorem dX5_addClause_5 : decode cX5_addClause 5 = .ok (.aload_n 0, 1) := by decide +kernel
theorem dX5_addClause_6 : decode cX5_addClause 6 = .ok (.getfield 9, 3) := by decide +kernel
theorem dX5_addClause_9 : decode cX5_addClause 9 = .ok (.iload_n 3, 1) := by decide +kernel
theorem dX5_addClause_10 : decode cX5_addClause 10 = .ok (.iload_n 1, 1) := by decide +kernel
theorem dX5_addClause_11 : decode cX5_addClause 11 = .ok (.iastore, 1) := by decide +kernel
theorem dX5_addClause_12 : decode cX5_addClause 12 = .ok (.aload_n 0, 1) := by decide +kernel
theorem dX5_addClause_13 : decode cX5_addClause 13 = .ok (.getfield 15, 3) := by decide +kernel
theorem dX5_addClause_16 : decode cX5_addClause 16 = .ok (.iload_n 3, 1) := by decide +kernel
theorem dX5_addClause_17 : decode cX5_addClause 17 = .ok (.iload_n 2, 1) := by decide +kernel
theorem dX5_addClause_18 : decode cX5_addClause 18 = .ok (.iastore, 1) := by decide +kernel
theorem dX5_addClause_19 : decode cX5_addClause 19 = .ok (.aload_n 0, 1) := by decide +kernel
theorem dX5_addClause_20 : decode cX5_addClause 20 = .ok (.iload_n 3, 1) := by decide +kernel
theorem dX5_addClause_21 : decode cX5_addClause 21 = .ok (.invokevirtual 51, 3) := by decide +kernel
theorem dX5_addClause_24 : decode cX5_addClause 24 = .ok (.iload_n 3, 1) := by decide +kernel
theorem dX5_addClause_25 : decode cX5_addClause 25 = .ok (.ireturn, 1) := by decide +kernel
set_option maxRecDepth 20000 in
theorem ggX5_addRow_X5_place : GoodIn wsX5_addRow wsX5_place := goodIn_r _ [9, 1, 10, 11, 12, 13, 14, 15, 16, 17, 18, 19, 20] (by decide +kernel) (by decide +kernel)
set_option maxRecDepth 20000 in
theorem gX5_addRow_X5_place : GoodIn wsX5_addRow (wsV RX5 51 RX5 yX5_place wsX5_place) := goodIn_app (goodIn_of _ (by decide +kernel)) ggX5_addRow_X5_place
theorem dX5_addRow_0 : decode cX5_addRow 0 = .ok (.aload_n 0, 1) := by decide +kernel
theorem dX5_addRow_1 : decode cX5_addRow 1 = .ok (.getfield 35, 3) := by decide +kernel
theorem dX5_addRow_4 : decode cX5_addRow 4 = .ok (.istore_n 2, 1) := by decide +kernel
theorem dX5_addRow_5 : decode cX5_addRow 5 = .ok (.aload_n 0, 1) := by decide +kernel
theorem dX5_addRow_6 : decode cX5_addRow 6 = .ok (.getfield 18, 3) := by decide +kernel
theorem dX5_addRow_9 : decode cX5_addRow 9 = .ok (.iload_n 2, 1) := by decide +kernel
theorem dX5_addRow_10 : decode cX5_addRow 10 = .ok (.iload_n 1, 1) := by decide +kernel
theorem dX5_addRow_11 : decode cX5_addRow 11 = .ok (.iastore, 1) := by decide +kernel
theorem dX5_addRow_12 : decode cX5_addRow 12 = .ok (.iconst 0, 1) := by decide +kernel
theorem dX5_addRow_13 : decode cX5_addRow 13 = .ok (.istore_n 3, 1) := by decide +kernel
theorem dX5_addRow_14 : decode cX5_addRow 14 = .ok (.iload_n 3, 1) := by decide +kernel
theorem dX5_addRow_15 : decode cX5_addRow 15 = .ok (.bipush 14, 2) := by decide +kernel
theorem dX5_addRow_17 : decode cX5_addRow 17 = .ok (.if_icmp .ge 21, 3) := by decide +kernel
theorem dX5_addRow_20 : decode cX5_addRow 20 = .ok (.aload_n 0, 1) := by decide +kernel
theorem dX5_addRow_21 : decode cX5_addRow 21 = .ok (.getfield 21, 3) := by decide +kernel
theorem dX5_addRow_24 : decode cX5_addRow 24 = .ok (.iload_n 2, 1) := by decide +kernel
theorem dX5_addRow_25 : decode cX5_addRow 25 = .ok (.bipush 14, 2) := by decide +kernel
theorem dX5_addRow_27 : decode cX5_addRow 27 = .ok (.imul, 1) := by decide +kernel
theorem dX5_addRow_28 : decode cX5_addRow 28 = .ok (.iload_n 3, 1) := by decide +kernel
theorem dX5_addRow_29 : decode cX5_addRow 29 = .ok (.iadd, 1) := by decide +kernel
theorem dX5_addRow_30 : decode cX5_addRow 30 = .ok (.iconst 0, 1) := by decide +kernel
theorem dX5_addRow_31 : decode cX5_addRow 31 = .ok (.iastore, 1) := by decide +kernel
theorem dX5_addRow_32 : decode cX5_addRow 32 = .ok (.iinc 3 1, 3) := by decide +kernel
theorem dX5_addRow_35 : decode cX5_addRow 35 = .ok (.goto (-21), 3) := by decide +kernel
theorem dX5_addRow_38 : decode cX5_addRow 38 = .ok (.aload_n 0, 1) := by decide +kernel
theorem dX5_addRow_39 : decode cX5_addRow 39 = .ok (.dup, 1) := by decide +kernel
theorem dX5_addRow_40 : decode cX5_addRow 40 = .ok (.getfield 42, 3) := by decide +kernel
theorem dX5_addRow_43 : decode cX5_addRow 43 = .ok (.lconst 1, 1) := by decide +kernel
theorem dX5_addRow_44 : decode cX5_addRow 44 = .ok (.iload_n 2, 1) := by decide +kernel
theorem dX5_addRow_45 : decode cX5_addRow 45 = .ok (.lshl, 1) := by decide +kernel
theorem dX5_addRow_46 : decode cX5_addRow 46 = .ok (.lor, 1) := by decide +kernel
theorem dX5_addRow_47 : decode cX5_addRow 47 = .ok (.putfield 42, 3) := by decide +kernel
theorem dX5_addRow_50 : decode cX5_addRow 50 = .ok (.aload_n 0, 1) := by decide +kernel
theorem dX5_addRow_51 : decode cX5_addRow 51 = .ok (.iload_n 2, 1) := by decide +kernel
theorem dX5_addRow_52 : decode cX5_addRow 52 = .ok (.invokevirtual 51, 3) := by decide +kernel
theorem dX5_addRow_55 : decode cX5_addRow 55 = .ok (.iload_n 2, 1) := by decide +kernel
theorem dX5_addRow_56 : decode cX5_addRow 56 = .ok (.ireturn, 1) := by decide +kernel
theorem dX5_place_0 : decode cX5_place 0 = .ok (.aload_n 0, 1) := by decide +kernel
theorem dX5_place_1 : decode cX5_place 1 = .ok (.dup, 1) := by decide +kernel
theorem dX5_place_2 : decode cX5_place 2 = .ok (.getfield 35, 3) := by decide +kernel
theorem dX5_place_5 : decode cX5_place 5 = .ok (.iconst 1, 1) := by decide +kernel
theorem dX5_place_6 : decode cX5_place 6 = .ok (.iadd, 1) := by decide +kernel
theorem dX5_place_7 : decode cX5_place 7 = .ok (.putfield 35, 3) := by decide +kernel
theorem dX5_place_10 : decode cX5_place 10 = .ok (.aload_n 0, 1) := by decide +kernel
theorem dX5_place_11 : decode cX5_place 11 = .ok (.dup, 1) := by decide +kernel
theorem dX5_place_12 : decode cX5_place 12 = .ok (.getfield 28, 3) := by decide +kernel
theorem dX5_place_15 : decode cX5_place 15 = .ok (.lconst 1, 1) := by decide +kernel
theorem dX5_place_16 : decode cX5_place 16 = .ok (.iload_n 1, 1) := by decide +kernel
theorem dX5_place_17 : decode cX5_place 17 = .ok (.lshl, 1) := by decide +kernel
theorem dX5_place_18 : decode cX5_place 18 = .ok (.lor, 1) := by decide +kernel
theorem dX5_place_19 : decode cX5_place 19 = .ok (.putfield 28, 3) := by decide +kernel
theorem dX5_place_22 : decode cX5_place 22 = .ok (.aload_n 0, 1) := by decide +kernel
theorem dX5_place_23 : decode cX5_place 23 = .ok (.dup, 1) := by decide +kernel
theorem dX5_place_24 : decode cX5_place 24 = .ok (.getfield 32, 3) := by decide +kernel
theorem dX5_place_27 : decode cX5_place 27 = .ok (.lconst 1, 1) := by decide +kernel
theorem dX5_place_28 : decode cX5_place 28 = .ok (.iload_n 1, 1) := by decide +kernel
theorem dX5_place_29 : decode cX5_place 29 = .ok (.lshl, 1) := by decide +kernel
theorem dX5_place_30 : decode cX5_place 30 = .ok (.lor, 1) := by decide +kernel
theorem dX5_place_31 : decode cX5_place 31 = .ok (.putfield 32, 3) := by decide +kernel
theorem dX5_place_34 : decode cX5_place 34 = .ok (.return_, 1) := by decide +kernel
theorem dX5_setWeight_0 : decode cX5_setWeight 0 = .ok (.aload_n 0, 1) := by decide +kernel
theorem dX5_setWeight_1 : decode cX5_setWeight 1 = .ok (.getfield 21, 3) := by decide +kernel
theorem dX5_setWeight_4 : decode cX5_setWeight 4 = .ok (.iload_n 1, 1) := by decide +kernel
theorem dX5_setWeight_5 : decode cX5_setWeight 5 = .ok (.bipush 14, 2) := by decide +kernel
theorem dX5_setWeight_7 : decode cX5_setWeight 7 = .ok (.imul, 1) := by decide +kernel
theorem dX5_setWeight_8 : decode cX5_setWeight 8 = .ok (.iload_n 2, 1) := by decide +kernel
theorem dX5_setWeight_9 : decode cX5_setWeight 9 = .ok (.iadd, 1) := by decide +kernel
theorem dX5_setWeight_10 : decode cX5_setWeight 10 = .ok (.iload_n 3, 1) := by decide +kernel
theorem dX5_setWeight_11 : decode cX5_setWeight 11 = .ok (.iastore, 1) := by decide +kernel
theorem dX5_setWeight_12 : decode cX5_setWeight 12 = .ok (.aload_n 0, 1) := by decide +kernel
theorem dX5_setWeight_13 : decode cX5_setWeight 13 = .ok (.dup, 1) := by decide +kernel
theorem dX5_setWeight_14 : decode cX5_setWeight 14 = .ok (.getfield 32, 3) := by decide +kernel
theorem dX5_setWeight_17 : decode cX5_setWeight 17 = .ok (.lconst 1, 1) := by decide +kernel
theorem dX5_setWeight_18 : decode cX5_setWeight 18 = .ok (.iload_n 1, 1) := by decide +kernel
theorem dX5_setWeight_19 : decode cX5_setWeight 19 = .ok (.lshl, 1) := by decide +kernel
theorem dX5_setWeight_20 : decode cX5_setWeight 20 = .ok (.lor, 1) := by decide +kernel
theorem dX5_setWeight_21 : decode cX5_setWeight 21 = .ok (.putfield 32, 3) := by decide +kernel
theorem dX5_setWeight_24 : decode cX5_setWeight 24 = .ok (.return_, 1) := by decide +kernel
theorem dX5_remove_0 : decode cX5_remove 0 = .ok (.aload_n 0, 1) := by decide +kernel
theorem dX5_remove_1 : decode cX5_remove 1 = .ok (.dup, 1) := by decide +kernel
theorem dX5_remove_2 : decode cX5_remove 2 = .ok (.getfield 28, 3) := by decide +kernel
theorem dX5_remove_5 : decode cX5_remove 5 = .ok (.lconst 1, 1) := by decide +kernel
theorem dX5_remove_6 : decode cX5_remove 6 = .ok (.iload_n 1, 1) := by decide +kernel
theorem dX5_remove_7 : decode cX5_remove 7 = .ok (.lshl, 1) := by decide +kernel
theorem dX5_remove_8 : decode cX5_remove 8 = .ok (.ldc2_w 55, 3) := by decide +kernel
theorem dX5_remove_11 : decode cX5_remove 11 = .ok (.lxor, 1) := by decide +kernel
theorem dX5_remove_12 : decode cX5_remove 12 = .ok (.land, 1) := by decide +kernel
theorem dX5_remove_13 : decode cX5_remove 13 = .ok (.putfield 28, 3) := by decide +kernel
theorem dX5_remove_16 : decode cX5_remove 16 = .ok (.return_, 1) := by decide +kernel
theorem dX5_removeAll_0 : decode cX5_removeAll 0 = .ok (.aload_n 0, 1) := by decide +kernel
theorem dX5_removeAll_1 : decode cX5_removeAll 1 = .ok (.iconst 0, 1) := by decide +kernel
theorem dX5_removeAll_2 : decode cX5_removeAll 2 = .ok (.putfield 24, 3) := by decide +kernel
theorem dX5_removeAll_5 : decode cX5_removeAll 5 = .ok (.aload_n 0, 1) := by decide +kernel
theorem dX5_removeAll_6 : decode cX5_removeAll 6 = .ok (.iconst 0, 1) := by decide +kernel
theorem dX5_removeAll_7 : decode cX5_removeAll 7 = .ok (.putfield 35, 3) := by decide +kernel
theorem dX5_removeAll_10 : decode cX5_removeAll 10 = .ok (.aload_n 0, 1) := by decide +kernel
theorem dX5_removeAll_11 : decode cX5_removeAll 11 = .ok (.lconst 0, 1) := by decide +kernel
theorem dX5_removeAll_12 : decode cX5_removeAll 12 = .ok (.putfield 28, 3) := by decide +kernel
theorem dX5_removeAll_15 : decode cX5_removeAll 15 = .ok (.aload_n 0, 1) := by decide +kernel
theorem dX5_removeAll_16 : decode cX5_removeAll 16 = .ok (.lconst 0, 1) := by decide +kernel
theorem dX5_removeAll_17 : decode cX5_removeAll 17 = .ok (.putfield 42, 3) := by decide +kernel
theorem dX5_removeAll_20 : decode cX5_removeAll 20 = .ok (.aload_n 0, 1) := by decide +kernel
theorem dX5_removeAll_21 : decode cX5_removeAll 21 = .ok (.lconst 0, 1) := by decide +kernel
theorem dX5_removeAll_22 : decode cX5_removeAll 22 = .ok (.putfield 32, 3) := by decide +kernel
theorem dX5_removeAll_25 : decode cX5_removeAll 25 = .ok (.return_, 1) := by decide +kernel
theorem dX5_wantedTrue_0 : decode cX5_wantedTrue 0 = .ok (.aload_n 0, 1) := by decide +kernel
theorem dX5_wantedTrue_1 : decode cX5_wantedTrue 1 = .ok (.getfield 9, 3) := by decide +kernel
theorem dX5_wantedTrue_4 : decode cX5_wantedTrue 4 = .ok (.iload_n 1, 1) := by decide +kernel
theorem dX5_wantedTrue_5 : decode cX5_wantedTrue 5 = .ok (.iaload, 1) := by decide +kernel
theorem dX5_wantedTrue_6 : decode cX5_wantedTrue 6 = .ok (.ireturn, 1) := by decide +kernel
theorem dX5_wantedFalse_0 : decode cX5_wantedFalse 0 = .ok (.aload_n 0, 1) := by decide +kernel
theorem dX5_wantedFalse_1 : decode cX5_wantedFalse 1 = .ok (.getfield 15, 3) := by decide +kernel
theorem dX5_wantedFalse_4 : decode cX5_wantedFalse 4 = .ok (.iload_n 1, 1) := by decide +kernel
theorem dX5_wantedFalse_5 : decode cX5_wantedFalse 5 = .ok (.iaload, 1) := by decide +kernel
theorem dX5_wantedFalse_6 : decode cX5_wantedFalse 6 = .ok (.ireturn, 1) := by decide +kernel
theorem dX5_boundOf_0 : decode cX5_boundOf 0 = .ok (.aload_n 0, 1) := by decide +kernel
theorem dX5_boundOf_1 : decode cX5_boundOf 1 = .ok (.getfield 18, 3) := by decide +kernel
theorem dX5_boundOf_4 : decode cX5_boundOf 4 = .ok (.iload_n 1, 1) := by decide +kernel
theorem dX5_boundOf_5 : decode cX5_boundOf 5 = .ok (.iaload, 1) := by decide +kernel
theorem dX5_boundOf_6 : decode cX5_boundOf 6 = .ok (.ireturn, 1) := by decide +kernel
theorem dX5_weightOf_0 : decode cX5_weightOf 0 = .ok (.aload_n 0, 1) := by decide +kernel
theorem dX5_weightOf_1 : decode cX5_weightOf 1 = .ok (.getfield 21, 3) := by decide +kernel
theorem dX5_weightOf_4 : decode cX5_weightOf 4 = .ok (.iload_n 1, 1) := by decide +kernel
theorem dX5_weightOf_5 : decode cX5_weightOf 5 = .ok (.bipush 14, 2) := by decide +kernel
theorem dX5_weightOf_7 : decode cX5_weightOf 7 = .ok (.imul, 1) := by decide +kernel
theorem dX5_weightOf_8 : decode cX5_weightOf 8 = .ok (.iload_n 2, 1) := by decide +kernel
theorem dX5_weightOf_9 : decode cX5_weightOf 9 = .ok (.iadd, 1) := by decide +kernel
theorem dX5_weightOf_10 : decode cX5_weightOf 10 = .ok (.iaload, 1) := by decide +kernel
theorem dX5_weightOf_11 : decode cX5_weightOf 11 = .ok (.ireturn, 1) := by decide +kernel
set_option maxRecDepth 20000 in
theorem ggX5_isUnread_X5_stands : GoodIn wsX5_isUnread wsX5_stands := goodIn_r _ [6, 7, 8, 9, 10, 11, 12, 13, 14, 15, 16, 17] (by decide +kernel) (by decide +kernel)
set_option maxRecDepth 20000 in
theorem gX5_isUnread_X5_stands : GoodIn wsX5_isUnread (wsV RX5 38 RX5 yX5_stands wsX5_stands) := goodIn_app (goodIn_of _ (by decide +kernel)) ggX5_isUnread_X5_stands
theorem dX5_isUnread_0 : decode cX5_isUnread 0 = .ok (.aload_n 0, 1) := by decide +kernel
theorem dX5_isUnread_1 : decode cX5_isUnread 1 = .ok (.iload_n 1, 1) := by decide +kernel
theorem dX5_isUnread_2 : decode cX5_isUnread 2 = .ok (.invokevirtual 38, 3) := by decide +kernel
theorem dX5_isUnread_5 : decode cX5_isUnread 5 = .ok (.ifCond .eq 20, 3) := by decide +kernel
theorem dX5_isUnread_8 : decode cX5_isUnread 8 = .ok (.aload_n 0, 1) := by decide +kernel
theorem dX5_isUnread_9 : decode cX5_isUnread 9 = .ok (.getfield 32, 3) := by decide +kernel
theorem dX5_isUnread_12 : decode cX5_isUnread 12 = .ok (.iload_n 1, 1) := by decide +kernel
theorem dX5_isUnread_13 : decode cX5_isUnread 13 = .ok (.lshr, 1) := by decide +kernel
theorem dX5_isUnread_14 : decode cX5_isUnread 14 = .ok (.lconst 1, 1) := by decide +kernel
theorem dX5_isUnread_15 : decode cX5_isUnread 15 = .ok (.land, 1) := by decide +kernel
theorem dX5_isUnread_16 : decode cX5_isUnread 16 = .ok (.lconst 1, 1) := by decide +kernel
theorem dX5_isUnread_17 : decode cX5_isUnread 17 = .ok (.lcmp, 1) := by decide +kernel
theorem dX5_isUnread_18 : decode cX5_isUnread 18 = .ok (.ifCond .ne 7, 3) := by decide +kernel
theorem dX5_isUnread_21 : decode cX5_isUnread 21 = .ok (.iconst 1, 1) := by decide +kernel
theorem dX5_isUnread_22 : decode cX5_isUnread 22 = .ok (.goto 4, 3) := by decide +kernel
theorem dX5_isUnread_25 : decode cX5_isUnread 25 = .ok (.iconst 0, 1) := by decide +kernel
theorem dX5_isUnread_26 : decode cX5_isUnread 26 = .ok (.ireturn, 1) := by decide +kernel
theorem dX5_allRead_0 : decode cX5_allRead 0 = .ok (.aload_n 0, 1) := by decide +kernel
theorem dX5_allRead_1 : decode cX5_allRead 1 = .ok (.lconst 0, 1) := by decide +kernel
theorem dX5_allRead_2 : decode cX5_allRead 2 = .ok (.putfield 32, 3) := by decide +kernel
theorem dX5_allRead_5 : decode cX5_allRead 5 = .ok (.return_, 1) := by decide +kernel
set_option maxRecDepth 20000 in
theorem ggX6_init_X5_init : GoodIn wsX6_init wsX5_init := goodIn_r _ [28, 29, 2, 3, 30, 31, 32, 33, 34, 69, 70, 71, 72, 73, 74, 75, 76, 77] (by decide +kernel) (by decide +kernel)
set_option maxRecDepth 20000 in
theorem gX6_init_X5_init_n9 : GoodIn wsX6_init (wsX5_init) := ggX6_init_X5_init
set_option maxRecDepth 20000 in
theorem ggX6_init_X2_init : GoodIn wsX6_init wsX2_init := goodIn_r _ [36, 37, 2, 3, 30, 38, 39, 87, 88, 89] (by decide +kernel) (by decide +kernel)
set_option maxRecDepth 20000 in
theorem gX6_init_X2_init_n18 : GoodIn wsX6_init (wsX2_init) := ggX6_init_X2_init
set_option maxRecDepth 20000 in
theorem ggX6_init_X1_init : GoodIn wsX6_init wsX1_init := goodIn_r _ [41, 42, 2, 3, 30, 43, 44, 90, 91, 92] (by decide +kernel) (by decide +kernel)
set_option maxRecDepth 20000 in
theorem gX6_init_X1_init_n25 : GoodIn wsX6_init (wsX1_init) := ggX6_init_X1_init
set_option maxRecDepth 20000 in
theorem ggX6_init_X0_init : GoodIn wsX6_init wsX0_init := goodIn_r _ [47, 48, 2, 3, 49, 50, 51, 93, 94, 95, 96, 97, 98] (by decide +kernel) (by decide +kernel)
set_option maxRecDepth 20000 in
theorem gX6_init_X0_init : GoodIn wsX6_init (wsX0_init) := ggX6_init_X0_init
set_option maxRecDepth 20000 in
theorem ggX6_init_X4_init : GoodIn wsX6_init wsX4_init := goodIn_r _ [54, 55, 2, 3, 56, 57, 58, 99, 100, 101, 102, 103, 104, 105, 106, 107] (by decide +kernel) (by decide +kernel)
set_option maxRecDepth 20000 in
theorem gX6_init_X4_init : GoodIn wsX6_init (wsX4_init) := ggX6_init_X4_init
set_option maxRecDepth 20000 in
theorem ggX6_init_X3_init : GoodIn wsX6_init wsX3_init := goodIn_r _ [61, 62, 2, 3, 63, 64, 30, 65, 66, 67, 68, 108, 109, 110, 111, 112, 113, 114, 115, 116, 117, 118, 119, 120] (by decide +kernel) (by decide +kernel)
set_option maxRecDepth 20000 in
theorem gX6_init_X3_init : GoodIn wsX6_init (wsX3_init) := ggX6_init_X3_init
theorem dX6_init_0 : decode cX6_init 0 = .ok (.aload_n 0, 1) := by decide +kernel
theorem dX6_init_1 : decode cX6_init 1 = .ok (.invokespecial 1, 3) := by decide +kernel
theorem dX6_init_4 : decode cX6_init 4 = .ok (.aload_n 0, 1) := by decide +kernel
theorem dX6_init_5 : decode cX6_init 5 = .ok (.new 7, 3) := by decide +kernel
theorem dX6_init_8 : decode cX6_init 8 = .ok (.dup, 1) := by decide +kernel
theorem dX6_init_9 : decode cX6_init 9 = .ok (.invokespecial 9, 3) := by decide +kernel
theorem dX6_init_12 : decode cX6_init 12 = .ok (.putfield 10, 3) := by decide +kernel
theorem dX6_init_15 : decode cX6_init 15 = .ok (.aload_n 0, 1) := by decide +kernel
theorem dX6_init_16 : decode cX6_init 16 = .ok (.new 16, 3) := by decide +kernel
theorem dX6_init_19 : decode cX6_init 19 = .ok (.dup, 1) := by decide +kernel
theorem dX6_init_20 : decode cX6_init 20 = .ok (.invokespecial 18, 3) := by decide +kernel
theorem dX6_init_23 : decode cX6_init 23 = .ok (.putfield 19, 3) := by decide +kernel
theorem dX6_init_26 : decode cX6_init 26 = .ok (.new 23, 3) := by decide +kernel
theorem dX6_init_29 : decode cX6_init 29 = .ok (.dup, 1) := by decide +kernel
theorem dX6_init_30 : decode cX6_init 30 = .ok (.invokespecial 25, 3) := by decide +kernel
theorem dX6_init_33 : decode cX6_init 33 = .ok (.astore_n 1, 1) := by decide +kernel
theorem dX6_init_34 : decode cX6_init 34 = .ok (.aload_n 0, 1) := by decide +kernel
theorem dX6_init_35 : decode cX6_init 35 = .ok (.new 26, 3) := by decide +kernel
theorem dX6_init_38 : decode cX6_init 38 = .ok (.dup, 1) := by decide +kernel
theorem dX6_init_39 : decode cX6_init 39 = .ok (.aload_n 0, 1) := by decide +kernel
theorem dX6_init_40 : decode cX6_init 40 = .ok (.getfield 10, 3) := by decide +kernel
theorem dX6_init_43 : decode cX6_init 43 = .ok (.aload_n 0, 1) := by decide +kernel
theorem dX6_init_44 : decode cX6_init 44 = .ok (.getfield 19, 3) := by decide +kernel
theorem dX6_init_47 : decode cX6_init 47 = .ok (.aload_n 1, 1) := by decide +kernel
theorem dX6_init_48 : decode cX6_init 48 = .ok (.invokespecial 28, 3) := by decide +kernel
theorem dX6_init_51 : decode cX6_init 51 = .ok (.putfield 31, 3) := by decide +kernel
theorem dX6_init_54 : decode cX6_init 54 = .ok (.aload_n 0, 1) := by decide +kernel
theorem dX6_init_55 : decode cX6_init 55 = .ok (.new 35, 3) := by decide +kernel
theorem dX6_init_58 : decode cX6_init 58 = .ok (.dup, 1) := by decide +kernel
theorem dX6_init_59 : decode cX6_init 59 = .ok (.aload_n 0, 1) := by decide +kernel
theorem dX6_init_60 : decode cX6_init 60 = .ok (.getfield 10, 3) := by decide +kernel
theorem dX6_init_63 : decode cX6_init 63 = .ok (.aload_n 0, 1) := by decide +kernel
theorem dX6_init_64 : decode cX6_init 64 = .ok (.getfield 31, 3) := by decide +kernel
theorem dX6_init_67 : decode cX6_init 67 = .ok (.aload_n 1, 1) := by decide +kernel
theorem dX6_init_68 : decode cX6_init 68 = .ok (.invokespecial 37, 3) := by decide +kernel
theorem dX6_init_71 : decode cX6_init 71 = .ok (.putfield 40, 3) := by decide +kernel
theorem dX6_init_74 : decode cX6_init 74 = .ok (.aload_n 0, 1) := by decide +kernel
theorem dX6_init_75 : decode cX6_init 75 = .ok (.new 44, 3) := by decide +kernel
theorem dX6_init_78 : decode cX6_init 78 = .ok (.dup, 1) := by decide +kernel
theorem dX6_init_79 : decode cX6_init 79 = .ok (.aload_n 0, 1) := by decide +kernel
theorem dX6_init_80 : decode cX6_init 80 = .ok (.getfield 10, 3) := by decide +kernel
theorem dX6_init_83 : decode cX6_init 83 = .ok (.invokespecial 46, 3) := by decide +kernel
theorem dX6_init_86 : decode cX6_init 86 = .ok (.putfield 49, 3) := by decide +kernel
theorem dX6_init_89 : decode cX6_init 89 = .ok (.return_, 1) := by decide +kernel
set_option maxRecDepth 20000 in
theorem ggX6_name_X5_names : GoodIn wsX6_name wsX5_names := goodIn_r _ [6, 7, 50, 51, 52, 53, 54, 55, 56, 57, 58] (by decide +kernel) (by decide +kernel)
set_option maxRecDepth 20000 in
theorem gX6_name_X5_names : GoodIn wsX6_name (wsV RX6 53 RX5 yX5_names wsX5_names) := goodIn_app (goodIn_of _ (by decide +kernel)) ggX6_name_X5_names
set_option maxRecDepth 20000 in
theorem ggX6_name_X6_outdate : GoodIn wsX6_name wsX6_outdate := goodIn_r _ [12, 13, 14, 15, 16, 17, 18, 19, 20, 21, 22, 23, 24, 25, 26, 27, 28, 29, 30, 31, 32, 33, 34, 41, 42, 43, 44, 45, 46, 47, 48, 49, 59, 60, 61, 62, 63, 64, 65, 66, 67, 68, 69, 70, 71, 72, 73, 74, 75, 76, 77, 78, 79, 80, 81, 82, 83] (by decide +kernel) (by decide +kernel)
set_option maxRecDepth 20000 in
theorem gX6_name_X6_outdate : GoodIn wsX6_name (wsV RX6 57 RX6 yX6_outdate wsX6_outdate) := goodIn_app (goodIn_of _ (by decide +kernel)) ggX6_name_X6_outdate
set_option maxRecDepth 20000 in
theorem ggX6_name_X5_addName : GoodIn wsX6_name wsX5_addName := goodIn_r _ [38, 7, 39, 40, 50, 51, 52, 53, 54, 55, 56, 57, 58] (by decide +kernel) (by decide +kernel)
set_option maxRecDepth 20000 in
theorem gX6_name_X5_addName : GoodIn wsX6_name (wsV RX6 60 RX5 yX5_addName wsX5_addName) := goodIn_app (goodIn_of _ (by decide +kernel)) ggX6_name_X5_addName
theorem dX6_name_0 : decode cX6_name 0 = .ok (.aload_n 0, 1) := by decide +kernel
theorem dX6_name_1 : decode cX6_name 1 = .ok (.getfield 10, 3) := by decide +kernel
theorem dX6_name_4 : decode cX6_name 4 = .ok (.invokevirtual 53, 3) := by decide +kernel
theorem dX6_name_7 : decode cX6_name 7 = .ok (.bipush 14, 2) := by decide +kernel
theorem dX6_name_9 : decode cX6_name 9 = .ok (.if_icmp .lt 6, 3) := by decide +kernel
theorem dX6_name_12 : decode cX6_name 12 = .ok (.bipush (-4), 2) := by decide +kernel
theorem dX6_name_14 : decode cX6_name 14 = .ok (.ireturn, 1) := by decide +kernel
theorem dX6_name_15 : decode cX6_name 15 = .ok (.aload_n 0, 1) := by decide +kernel
theorem dX6_name_16 : decode cX6_name 16 = .ok (.invokevirtual 57, 3) := by decide +kernel
theorem dX6_name_19 : decode cX6_name 19 = .ok (.aload_n 0, 1) := by decide +kernel
theorem dX6_name_20 : decode cX6_name 20 = .ok (.getfield 10, 3) := by decide +kernel
theorem dX6_name_23 : decode cX6_name 23 = .ok (.invokevirtual 60, 3) := by decide +kernel
theorem dX6_name_26 : decode cX6_name 26 = .ok (.ireturn, 1) := by decide +kernel
set_option maxRecDepth 20000 in
theorem ggX6_literal_X6_isLiteral : GoodIn wsX6_literal wsX6_isLiteral := goodIn_r _ [7, 8, 9, 10, 11, 12, 13, 14, 31, 32, 33, 34, 35, 36, 37, 38, 39, 40, 41, 42, 43, 44, 45, 46, 47, 48] (by decide +kernel) (by decide +kernel)
set_option maxRecDepth 20000 in
theorem gX6_literal_X6_isLiteral : GoodIn wsX6_literal (wsV RX6 63 RX6 yX6_isLiteral wsX6_isLiteral) := goodIn_app (goodIn_of _ (by decide +kernel)) ggX6_literal_X6_isLiteral
set_option maxRecDepth 20000 in
theorem ggX6_literal_X6_nameWantedTrue : GoodIn wsX6_literal wsX6_nameWantedTrue := goodIn_r _ [17] (by decide +kernel) (by decide +kernel)
set_option maxRecDepth 20000 in
theorem gX6_literal_X6_nameWantedTrue : GoodIn wsX6_literal (va_wsS RX6 71 yX6_nameWantedTrue wsX6_nameWantedTrue) := goodIn_app (goodIn_of _ (by decide +kernel)) ggX6_literal_X6_nameWantedTrue
set_option maxRecDepth 20000 in
theorem ggX6_literal_X6_nameWantedFalse : GoodIn wsX6_literal wsX6_nameWantedFalse := goodIn_r _ [20] (by decide +kernel) (by decide +kernel)
set_option maxRecDepth 20000 in
theorem gX6_literal_X6_nameWantedFalse : GoodIn wsX6_literal (va_wsS RX6 78 yX6_nameWantedFalse wsX6_nameWantedFalse) := goodIn_app (goodIn_of _ (by decide +kernel)) ggX6_literal_X6_nameWantedFalse
set_option maxRecDepth 20000 in
theorem ggX6_literal_X6_literalsIn : GoodIn wsX6_literal wsX6_literalsIn := goodIn_r _ [23, 24, 25, 26, 27, 28, 29, 30] (by decide +kernel) (by decide +kernel)
set_option maxRecDepth 20000 in
theorem gX6_literal_X6_literalsIn : GoodIn wsX6_literal (va_wsS RX6 81 yX6_literalsIn wsX6_literalsIn) := goodIn_app (goodIn_of _ (by decide +kernel)) ggX6_literal_X6_literalsIn
theorem dX6_literal_0 : decode cX6_literal 0 = .ok (.aload_n 0, 1) := by decide +kernel
theorem dX6_literal_1 : decode cX6_literal 1 = .ok (.iload_n 1, 1) := by decide +kernel
theorem dX6_literal_2 : decode cX6_literal 2 = .ok (.invokevirtual 63, 3) := by decide +kernel
theorem dX6_literal_5 : decode cX6_literal 5 = .ok (.ifCond .ne 5, 3) := by decide +kernel
theorem dX6_literal_8 : decode cX6_literal 8 = .ok (.iconst (-1), 1) := by decide +kernel
theorem dX6_literal_9 : decode cX6_literal 9 = .ok (.ireturn, 1) := by decide +kernel
theorem dX6_literal_10 : decode cX6_literal 10 = .ok (.aload_n 0, 1) := by decide +kernel
theorem dX6_literal_11 : decode cX6_literal 11 = .ok (.getfield 67, 3) := by decide +kernel
theorem dX6_literal_14 : decode cX6_literal 14 = .ok (.iload_n 1, 1) := by decide +kernel
theorem dX6_literal_15 : decode cX6_literal 15 = .ok (.invokestatic 71, 3) := by decide +kernel
theorem dX6_literal_18 : decode cX6_literal 18 = .ok (.ior, 1) := by decide +kernel
theorem dX6_literal_19 : decode cX6_literal 19 = .ok (.istore_n 2, 1) := by decide +kernel
theorem dX6_literal_20 : decode cX6_literal 20 = .ok (.aload_n 0, 1) := by decide +kernel
theorem dX6_literal_21 : decode cX6_literal 21 = .ok (.getfield 75, 3) := by decide +kernel
theorem dX6_literal_24 : decode cX6_literal 24 = .ok (.iload_n 1, 1) := by decide +kernel
theorem dX6_literal_25 : decode cX6_literal 25 = .ok (.invokestatic 78, 3) := by decide +kernel
theorem dX6_literal_28 : decode cX6_literal 28 = .ok (.ior, 1) := by decide +kernel
theorem dX6_literal_29 : decode cX6_literal 29 = .ok (.istore_n 3, 1) := by decide +kernel
theorem dX6_literal_30 : decode cX6_literal 30 = .ok (.iload_n 2, 1) := by decide +kernel
theorem dX6_literal_31 : decode cX6_literal 31 = .ok (.iload_n 3, 1) := by decide +kernel
theorem dX6_literal_32 : decode cX6_literal 32 = .ok (.invokestatic 81, 3) := by decide +kernel
theorem dX6_literal_35 : decode cX6_literal 35 = .ok (.istore 4, 2) := by decide +kernel
theorem dX6_literal_37 : decode cX6_literal 37 = .ok (.iload 4, 2) := by decide +kernel
theorem dX6_literal_39 : decode cX6_literal 39 = .ok (.bipush 8, 2) := by decide +kernel
theorem dX6_literal_41 : decode cX6_literal 41 = .ok (.if_icmp .le 6, 3) := by decide +kernel
theorem dX6_literal_44 : decode cX6_literal 44 = .ok (.bipush (-4), 2) := by decide +kernel
theorem dX6_literal_46 : decode cX6_literal 46 = .ok (.ireturn, 1) := by decide +kernel
theorem dX6_literal_47 : decode cX6_literal 47 = .ok (.aload_n 0, 1) := by decide +kernel
theorem dX6_literal_48 : decode cX6_literal 48 = .ok (.iload_n 2, 1) := by decide +kernel
theorem dX6_literal_49 : decode cX6_literal 49 = .ok (.putfield 67, 3) := by decide +kernel
theorem dX6_literal_52 : decode cX6_literal 52 = .ok (.aload_n 0, 1) := by decide +kernel
theorem dX6_literal_53 : decode cX6_literal 53 = .ok (.iload_n 3, 1) := by decide +kernel
theorem dX6_literal_54 : decode cX6_literal 54 = .ok (.putfield 75, 3) := by decide +kernel
theorem dX6_literal_57 : decode cX6_literal 57 = .ok (.iload 4, 2) := by decide +kernel
theorem dX6_literal_59 : decode cX6_literal 59 = .ok (.ireturn, 1) := by decide +kernel
set_option maxRecDepth 20000 in
theorem ggX6_clause_X5_isFull : GoodIn wsX6_clause wsX5_isFull := goodIn_r _ [8, 9, 62, 63, 64, 65, 66, 67, 68, 69, 70] (by decide +kernel) (by decide +kernel)
set_option maxRecDepth 20000 in
theorem gX6_clause_X5_isFull : GoodIn wsX6_clause (wsV RX6 85 RX5 yX5_isFull wsX5_isFull) := goodIn_app (goodIn_of _ (by decide +kernel)) ggX6_clause_X5_isFull
set_option maxRecDepth 20000 in
theorem ggX6_clause_X5_addClause : GoodIn wsX6_clause wsX5_addClause := goodIn_r _ [13, 9, 14, 15, 16, 17, 18, 7, 19, 20, 21, 62, 63, 64, 65, 66, 67, 68, 69, 70] (by decide +kernel) (by decide +kernel)
set_option maxRecDepth 20000 in
theorem gX6_clause_X5_addClause : GoodIn wsX6_clause (wsV RX6 89 RX5 yX5_addClause wsX5_addClause) := goodIn_app (goodIn_of _ (by decide +kernel)) ggX6_clause_X5_addClause
set_option maxRecDepth 20000 in
theorem ggX6_clause_X6_emptyHand : GoodIn wsX6_clause wsX6_emptyHand := goodIn_r _ [26, 2, 3, 53, 54, 55, 56, 57, 58, 59, 60, 61] (by decide +kernel) (by decide +kernel)
set_option maxRecDepth 20000 in
theorem gX6_clause_X6_emptyHand : GoodIn wsX6_clause (wsV RX6 92 RX6 yX6_emptyHand wsX6_emptyHand) := goodIn_app (goodIn_of _ (by decide +kernel)) ggX6_clause_X6_emptyHand
set_option maxRecDepth 20000 in
theorem ggX6_clause_X6_outdate : GoodIn wsX6_clause wsX6_outdate := goodIn_r _ [30, 31, 32, 33, 34, 35, 36, 37, 38, 39, 40, 41, 42, 43, 44, 45, 46, 47, 48, 49, 50, 51, 52, 53, 54, 55, 56, 57, 58, 59, 60, 61, 71, 72, 73, 74, 75, 76, 77, 78, 79, 80, 81, 82, 83, 84, 85, 86, 87, 88, 89, 90, 91, 92, 93, 94, 95] (by decide +kernel) (by decide +kernel)
set_option maxRecDepth 20000 in
theorem gX6_clause_X6_outdate : GoodIn wsX6_clause (wsV RX6 57 RX6 yX6_outdate wsX6_outdate) := goodIn_app (goodIn_of _ (by decide +kernel)) ggX6_clause_X6_outdate
theorem dX6_clause_0 : decode cX6_clause 0 = .ok (.aload_n 0, 1) := by decide +kernel
theorem dX6_clause_1 : decode cX6_clause 1 = .ok (.getfield 10, 3) := by decide +kernel
theorem dX6_clause_4 : decode cX6_clause 4 = .ok (.invokevirtual 85, 3) := by decide +kernel
theorem dX6_clause_7 : decode cX6_clause 7 = .ok (.ifCond .eq 6, 3) := by decide +kernel
theorem dX6_clause_10 : decode cX6_clause 10 = .ok (.bipush (-4), 2) := by decide +kernel
theorem dX6_clause_12 : decode cX6_clause 12 = .ok (.ireturn, 1) := by decide +kernel
theorem dX6_clause_13 : decode cX6_clause 13 = .ok (.aload_n 0, 1) := by decide +kernel
theorem dX6_clause_14 : decode cX6_clause 14 = .ok (.getfield 10, 3) := by decide +kernel
theorem dX6_clause_17 : decode cX6_clause 17 = .ok (.aload_n 0, 1) := by decide +kernel
theorem dX6_clause_18 : decode cX6_clause 18 = .ok (.getfield 67, 3) := by decide +kernel
theorem dX6_clause_21 : decode cX6_clause 21 = .ok (.aload_n 0, 1) := by decide +kernel
theorem dX6_clause_22 : decode cX6_clause 22 = .ok (.getfield 75, 3) := by decide +kernel
theorem dX6_clause_25 : decode cX6_clause 25 = .ok (.invokevirtual 89, 3) := by decide +kernel
theorem dX6_clause_28 : decode cX6_clause 28 = .ok (.istore_n 1, 1) := by decide +kernel
theorem dX6_clause_29 : decode cX6_clause 29 = .ok (.aload_n 0, 1) := by decide +kernel
theorem dX6_clause_30 : decode cX6_clause 30 = .ok (.invokevirtual 92, 3) := by decide +kernel
theorem dX6_clause_33 : decode cX6_clause 33 = .ok (.aload_n 0, 1) := by decide +kernel
theorem dX6_clause_34 : decode cX6_clause 34 = .ok (.invokevirtual 57, 3) := by decide +kernel
theorem dX6_clause_37 : decode cX6_clause 37 = .ok (.iload_n 1, 1) := by decide +kernel
theorem dX6_clause_38 : decode cX6_clause 38 = .ok (.ireturn, 1) := by decide +kernel
set_option maxRecDepth 20000 in
theorem ggX6_row_X6_isOutside : GoodIn wsX6_row wsX6_isOutside := goodIn_r _ [5] (by decide +kernel) (by decide +kernel)
set_option maxRecDepth 20000 in
theorem gX6_row_X6_isOutside : GoodIn wsX6_row (va_wsS RX6 95 yX6_isOutside wsX6_isOutside) := goodIn_app (goodIn_of _ (by decide +kernel)) ggX6_row_X6_isOutside
set_option maxRecDepth 20000 in
theorem ggX6_row_X5_isFull : GoodIn wsX6_row wsX5_isFull := goodIn_r _ [10, 11, 60, 61, 62, 63, 64, 65, 66, 67, 68] (by decide +kernel) (by decide +kernel)
set_option maxRecDepth 20000 in
theorem gX6_row_X5_isFull : GoodIn wsX6_row (wsV RX6 85 RX5 yX5_isFull wsX5_isFull) := goodIn_app (goodIn_of _ (by decide +kernel)) ggX6_row_X5_isFull
set_option maxRecDepth 20000 in
theorem ggX6_row_X6_outdate : GoodIn wsX6_row wsX6_outdate := goodIn_r _ [15, 16, 17, 18, 19, 20, 21, 22, 23, 24, 25, 26, 27, 28, 29, 30, 31, 32, 33, 34, 35, 36, 37, 51, 52, 53, 54, 55, 56, 57, 58, 59, 69, 70, 71, 72, 73, 74, 75, 76, 77, 78, 79, 80, 81, 82, 83, 84, 85, 86, 87, 88, 89, 90, 91, 92, 93] (by decide +kernel) (by decide +kernel)
set_option maxRecDepth 20000 in
theorem gX6_row_X6_outdate : GoodIn wsX6_row (wsV RX6 57 RX6 yX6_outdate wsX6_outdate) := goodIn_app (goodIn_of _ (by decide +kernel)) ggX6_row_X6_outdate
set_option maxRecDepth 20000 in
theorem ggX6_row_X5_addRow : GoodIn wsX6_row wsX5_addRow := goodIn_r _ [41, 11, 42, 43, 44, 45, 46, 47, 9, 48, 49, 50, 60, 61, 62, 63, 64, 65, 66, 67, 68] (by decide +kernel) (by decide +kernel)
set_option maxRecDepth 20000 in
theorem gX6_row_X5_addRow : GoodIn wsX6_row (wsV RX6 99 RX5 yX5_addRow wsX5_addRow) := goodIn_app (goodIn_of _ (by decide +kernel)) ggX6_row_X5_addRow
theorem dX6_row_0 : decode cX6_row 0 = .ok (.iload_n 1, 1) := by decide +kernel
theorem dX6_row_1 : decode cX6_row 1 = .ok (.sipush 200, 3) := by decide +kernel
theorem dX6_row_4 : decode cX6_row 4 = .ok (.invokestatic 95, 3) := by decide +kernel
theorem dX6_row_7 : decode cX6_row 7 = .ok (.ifCond .eq 6, 3) := by decide +kernel
theorem dX6_row_10 : decode cX6_row 10 = .ok (.bipush (-2), 2) := by decide +kernel
theorem dX6_row_12 : decode cX6_row 12 = .ok (.ireturn, 1) := by decide +kernel
theorem dX6_row_13 : decode cX6_row 13 = .ok (.aload_n 0, 1) := by decide +kernel
theorem dX6_row_14 : decode cX6_row 14 = .ok (.getfield 10, 3) := by decide +kernel
theorem dX6_row_17 : decode cX6_row 17 = .ok (.invokevirtual 85, 3) := by decide +kernel
theorem dX6_row_20 : decode cX6_row 20 = .ok (.ifCond .eq 6, 3) := by decide +kernel
theorem dX6_row_23 : decode cX6_row 23 = .ok (.bipush (-4), 2) := by decide +kernel
theorem dX6_row_25 : decode cX6_row 25 = .ok (.ireturn, 1) := by decide +kernel
theorem dX6_row_26 : decode cX6_row 26 = .ok (.aload_n 0, 1) := by decide +kernel
theorem dX6_row_27 : decode cX6_row 27 = .ok (.invokevirtual 57, 3) := by decide +kernel
theorem dX6_row_30 : decode cX6_row 30 = .ok (.aload_n 0, 1) := by decide +kernel
theorem dX6_row_31 : decode cX6_row 31 = .ok (.getfield 10, 3) := by decide +kernel
theorem dX6_row_34 : decode cX6_row 34 = .ok (.iload_n 1, 1) := by decide +kernel
theorem dX6_row_35 : decode cX6_row 35 = .ok (.invokevirtual 99, 3) := by decide +kernel
theorem dX6_row_38 : decode cX6_row 38 = .ok (.ireturn, 1) := by decide +kernel
set_option maxRecDepth 20000 in
theorem ggX6_weight_X5_isRow : GoodIn wsX6_weight wsX5_isRow := goodIn_r _ [6, 7, 8, 9, 10, 5, 11, 12, 13, 64, 65, 66, 67, 68, 69, 70, 71, 72] (by decide +kernel) (by decide +kernel)
set_option maxRecDepth 20000 in
theorem gX6_weight_X5_isRow : GoodIn wsX6_weight (wsV RX6 102 RX5 yX5_isRow wsX5_isRow) := goodIn_app (goodIn_of _ (by decide +kernel)) ggX6_weight_X5_isRow
set_option maxRecDepth 20000 in
theorem ggX6_weight_X5_isName : GoodIn wsX6_weight wsX5_isName := goodIn_r _ [17, 18, 64, 65, 66, 67, 68, 69, 70, 71, 72] (by decide +kernel) (by decide +kernel)
set_option maxRecDepth 20000 in
theorem gX6_weight_X5_isName : GoodIn wsX6_weight (wsV RX6 105 RX5 yX5_isName wsX5_isName) := goodIn_app (goodIn_of _ (by decide +kernel)) ggX6_weight_X5_isName
set_option maxRecDepth 20000 in
theorem ggX6_weight_X6_isOutside : GoodIn wsX6_weight wsX6_isOutside := goodIn_r _ [22] (by decide +kernel) (by decide +kernel)
set_option maxRecDepth 20000 in
theorem gX6_weight_X6_isOutside : GoodIn wsX6_weight (va_wsS RX6 95 yX6_isOutside wsX6_isOutside) := goodIn_app (goodIn_of _ (by decide +kernel)) ggX6_weight_X6_isOutside
set_option maxRecDepth 20000 in
theorem ggX6_weight_X6_outdate : GoodIn wsX6_weight wsX6_outdate := goodIn_r _ [26, 27, 28, 29, 30, 31, 32, 33, 34, 35, 36, 37, 38, 39, 40, 41, 42, 43, 44, 45, 46, 47, 48, 55, 56, 57, 58, 59, 60, 61, 62, 63, 73, 74, 75, 76, 77, 78, 79, 80, 81, 82, 83, 84, 85, 86, 87, 88, 89, 90, 91, 92, 93, 94, 95, 96, 97] (by decide +kernel) (by decide +kernel)
set_option maxRecDepth 20000 in
theorem gX6_weight_X6_outdate : GoodIn wsX6_weight (wsV RX6 57 RX6 yX6_outdate wsX6_outdate) := goodIn_app (goodIn_of _ (by decide +kernel)) ggX6_weight_X6_outdate
set_option maxRecDepth 20000 in
theorem ggX6_weight_X5_setWeight : GoodIn wsX6_weight wsX5_setWeight := goodIn_r _ [52, 53, 54, 64, 65, 66, 67, 68, 69, 70, 71, 72] (by decide +kernel) (by decide +kernel)
set_option maxRecDepth 20000 in
theorem gX6_weight_X5_setWeight : GoodIn wsX6_weight (wsV RX6 108 RX5 yX5_setWeight wsX5_setWeight) := goodIn_app (goodIn_of _ (by decide +kernel)) ggX6_weight_X5_setWeight
theorem dX6_weight_0 : decode cX6_weight 0 = .ok (.aload_n 0, 1) := by decide +kernel
theorem dX6_weight_1 : decode cX6_weight 1 = .ok (.getfield 10, 3) := by decide +kernel
theorem dX6_weight_4 : decode cX6_weight 4 = .ok (.iload_n 1, 1) := by decide +kernel
theorem dX6_weight_5 : decode cX6_weight 5 = .ok (.invokevirtual 102, 3) := by decide +kernel
theorem dX6_weight_8 : decode cX6_weight 8 = .ok (.ifCond .eq 14, 3) := by decide +kernel
theorem dX6_weight_11 : decode cX6_weight 11 = .ok (.aload_n 0, 1) := by decide +kernel
theorem dX6_weight_12 : decode cX6_weight 12 = .ok (.getfield 10, 3) := by decide +kernel
theorem dX6_weight_15 : decode cX6_weight 15 = .ok (.iload_n 2, 1) := by decide +kernel
theorem dX6_weight_16 : decode cX6_weight 16 = .ok (.invokevirtual 105, 3) := by decide +kernel
theorem dX6_weight_19 : decode cX6_weight 19 = .ok (.ifCond .ne 5, 3) := by decide +kernel
theorem dX6_weight_22 : decode cX6_weight 22 = .ok (.iconst (-1), 1) := by decide +kernel
theorem dX6_weight_23 : decode cX6_weight 23 = .ok (.ireturn, 1) := by decide +kernel
theorem dX6_weight_24 : decode cX6_weight 24 = .ok (.iload_n 3, 1) := by decide +kernel
theorem dX6_weight_25 : decode cX6_weight 25 = .ok (.bipush 20, 2) := by decide +kernel
theorem dX6_weight_27 : decode cX6_weight 27 = .ok (.invokestatic 95, 3) := by decide +kernel
theorem dX6_weight_30 : decode cX6_weight 30 = .ok (.ifCond .eq 6, 3) := by decide +kernel
theorem dX6_weight_33 : decode cX6_weight 33 = .ok (.bipush (-2), 2) := by decide +kernel
theorem dX6_weight_35 : decode cX6_weight 35 = .ok (.ireturn, 1) := by decide +kernel
theorem dX6_weight_36 : decode cX6_weight 36 = .ok (.aload_n 0, 1) := by decide +kernel
theorem dX6_weight_37 : decode cX6_weight 37 = .ok (.invokevirtual 57, 3) := by decide +kernel
theorem dX6_weight_40 : decode cX6_weight 40 = .ok (.aload_n 0, 1) := by decide +kernel
theorem dX6_weight_41 : decode cX6_weight 41 = .ok (.getfield 10, 3) := by decide +kernel
theorem dX6_weight_44 : decode cX6_weight 44 = .ok (.iload_n 1, 1) := by decide +kernel
theorem dX6_weight_45 : decode cX6_weight 45 = .ok (.iload_n 2, 1) := by decide +kernel
theorem dX6_weight_46 : decode cX6_weight 46 = .ok (.iload_n 3, 1) := by decide +kernel
theorem dX6_weight_47 : decode cX6_weight 47 = .ok (.invokevirtual 108, 3) := by decide +kernel
theorem dX6_weight_50 : decode cX6_weight 50 = .ok (.iconst 1, 1) := by decide +kernel
theorem dX6_weight_51 : decode cX6_weight 51 = .ok (.ireturn, 1) := by decide +kernel
set_option maxRecDepth 20000 in
theorem ggX6_drop_X5_stands : GoodIn wsX6_drop wsX5_stands := goodIn_r _ [6, 7, 8, 61, 62, 63, 64, 65, 66, 67, 68, 69] (by decide +kernel) (by decide +kernel)
set_option maxRecDepth 20000 in
theorem gX6_drop_X5_stands : GoodIn wsX6_drop (wsV RX6 112 RX5 yX5_stands wsX5_stands) := goodIn_app (goodIn_of _ (by decide +kernel)) ggX6_drop_X5_stands
set_option maxRecDepth 20000 in
theorem ggX6_drop_X6_outdate : GoodIn wsX6_drop wsX6_outdate := goodIn_r _ [13, 14, 15, 16, 17, 18, 19, 20, 21, 22, 23, 24, 25, 26, 27, 28, 29, 30, 31, 32, 33, 34, 35, 52, 53, 54, 55, 56, 57, 58, 59, 60, 70, 71, 72, 73, 74, 75, 76, 77, 78, 79, 80, 81, 82, 83, 84, 85, 86, 87, 88, 89, 90, 91, 92, 93, 94] (by decide +kernel) (by decide +kernel)
set_option maxRecDepth 20000 in
theorem gX6_drop_X6_outdate : GoodIn wsX6_drop (wsV RX6 57 RX6 yX6_outdate wsX6_outdate) := goodIn_app (goodIn_of _ (by decide +kernel)) ggX6_drop_X6_outdate
set_option maxRecDepth 20000 in
theorem ggX6_drop_X5_remove : GoodIn wsX6_drop wsX5_remove := goodIn_r _ [39, 8, 40, 61, 62, 63, 64, 65, 66, 67, 68, 69] (by decide +kernel) (by decide +kernel)
set_option maxRecDepth 20000 in
theorem gX6_drop_X5_remove : GoodIn wsX6_drop (wsV RX6 115 RX5 yX5_remove wsX5_remove) := goodIn_app (goodIn_of _ (by decide +kernel)) ggX6_drop_X5_remove
set_option maxRecDepth 20000 in
theorem ggX6_drop_X5_howMany : GoodIn wsX6_drop wsX5_howMany := goodIn_r _ [44, 8, 45, 46, 47, 48, 49, 50, 51, 61, 62, 63, 64, 65, 66, 67, 68, 69] (by decide +kernel) (by decide +kernel)
set_option maxRecDepth 20000 in
theorem gX6_drop_X5_howMany : GoodIn wsX6_drop (wsV RX6 119 RX5 yX5_howMany wsX5_howMany) := goodIn_app (goodIn_of _ (by decide +kernel)) ggX6_drop_X5_howMany
theorem dX6_drop_0 : decode cX6_drop 0 = .ok (.aload_n 0, 1) := by decide +kernel
theorem dX6_drop_1 : decode cX6_drop 1 = .ok (.getfield 10, 3) := by decide +kernel
theorem dX6_drop_4 : decode cX6_drop 4 = .ok (.iload_n 1, 1) := by decide +kernel
theorem dX6_drop_5 : decode cX6_drop 5 = .ok (.invokevirtual 112, 3) := by decide +kernel
theorem dX6_drop_8 : decode cX6_drop 8 = .ok (.ifCond .ne 5, 3) := by decide +kernel
theorem dX6_drop_11 : decode cX6_drop 11 = .ok (.iconst (-1), 1) := by decide +kernel
theorem dX6_drop_12 : decode cX6_drop 12 = .ok (.ireturn, 1) := by decide +kernel
theorem dX6_drop_13 : decode cX6_drop 13 = .ok (.aload_n 0, 1) := by decide +kernel
theorem dX6_drop_14 : decode cX6_drop 14 = .ok (.invokevirtual 57, 3) := by decide +kernel
theorem dX6_drop_17 : decode cX6_drop 17 = .ok (.aload_n 0, 1) := by decide +kernel
theorem dX6_drop_18 : decode cX6_drop 18 = .ok (.getfield 10, 3) := by decide +kernel
theorem dX6_drop_21 : decode cX6_drop 21 = .ok (.iload_n 1, 1) := by decide +kernel
theorem dX6_drop_22 : decode cX6_drop 22 = .ok (.invokevirtual 115, 3) := by decide +kernel
theorem dX6_drop_25 : decode cX6_drop 25 = .ok (.aload_n 0, 1) := by decide +kernel
theorem dX6_drop_26 : decode cX6_drop 26 = .ok (.getfield 10, 3) := by decide +kernel
theorem dX6_drop_29 : decode cX6_drop 29 = .ok (.invokevirtual 119, 3) := by decide +kernel
theorem dX6_drop_32 : decode cX6_drop 32 = .ok (.ireturn, 1) := by decide +kernel
set_option maxRecDepth 20000 in
theorem ggX6_cost_X5_isName : GoodIn wsX6_cost wsX5_isName := goodIn_r _ [7, 8, 29, 30, 31, 32, 33, 34, 35, 36, 37] (by decide +kernel) (by decide +kernel)
set_option maxRecDepth 20000 in
theorem gX6_cost_X5_isName : GoodIn wsX6_cost (wsV RX6 105 RX5 yX5_isName wsX5_isName) := goodIn_app (goodIn_of _ (by decide +kernel)) ggX6_cost_X5_isName
set_option maxRecDepth 20000 in
theorem ggX6_cost_X6_isOutside : GoodIn wsX6_cost wsX6_isOutside := goodIn_r _ [12] (by decide +kernel) (by decide +kernel)
set_option maxRecDepth 20000 in
theorem gX6_cost_X6_isOutside : GoodIn wsX6_cost (va_wsS RX6 95 yX6_isOutside wsX6_isOutside) := goodIn_app (goodIn_of _ (by decide +kernel)) ggX6_cost_X6_isOutside
set_option maxRecDepth 20000 in
theorem ggX6_cost_X3_setCost : GoodIn wsX6_cost wsX3_setCost := goodIn_r _ [17, 18, 19, 38, 39, 40, 41, 42, 43, 44, 45, 46, 47, 48, 49, 50] (by decide +kernel) (by decide +kernel)
set_option maxRecDepth 20000 in
theorem gX6_cost_X3_setCost : GoodIn wsX6_cost (wsV RX6 122 RX3 yX3_setCost wsX3_setCost) := goodIn_app (goodIn_of _ (by decide +kernel)) ggX6_cost_X3_setCost
theorem dX6_cost_0 : decode cX6_cost 0 = .ok (.aload_n 0, 1) := by decide +kernel
theorem dX6_cost_1 : decode cX6_cost 1 = .ok (.getfield 10, 3) := by decide +kernel
theorem dX6_cost_4 : decode cX6_cost 4 = .ok (.iload_n 1, 1) := by decide +kernel
theorem dX6_cost_5 : decode cX6_cost 5 = .ok (.invokevirtual 105, 3) := by decide +kernel
theorem dX6_cost_8 : decode cX6_cost 8 = .ok (.ifCond .ne 5, 3) := by decide +kernel
theorem dX6_cost_11 : decode cX6_cost 11 = .ok (.iconst (-1), 1) := by decide +kernel
theorem dX6_cost_12 : decode cX6_cost 12 = .ok (.ireturn, 1) := by decide +kernel
theorem dX6_cost_13 : decode cX6_cost 13 = .ok (.iload_n 2, 1) := by decide +kernel
theorem dX6_cost_14 : decode cX6_cost 14 = .ok (.bipush 50, 2) := by decide +kernel
theorem dX6_cost_16 : decode cX6_cost 16 = .ok (.invokestatic 95, 3) := by decide +kernel
theorem dX6_cost_19 : decode cX6_cost 19 = .ok (.ifCond .eq 6, 3) := by decide +kernel
theorem dX6_cost_22 : decode cX6_cost 22 = .ok (.bipush (-2), 2) := by decide +kernel
theorem dX6_cost_24 : decode cX6_cost 24 = .ok (.ireturn, 1) := by decide +kernel
theorem dX6_cost_25 : decode cX6_cost 25 = .ok (.aload_n 0, 1) := by decide +kernel
theorem dX6_cost_26 : decode cX6_cost 26 = .ok (.getfield 49, 3) := by decide +kernel
theorem dX6_cost_29 : decode cX6_cost 29 = .ok (.iload_n 1, 1) := by decide +kernel
theorem dX6_cost_30 : decode cX6_cost 30 = .ok (.iload_n 2, 1) := by decide +kernel
theorem dX6_cost_31 : decode cX6_cost 31 = .ok (.invokevirtual 122, 3) := by decide +kernel
theorem dX6_cost_34 : decode cX6_cost 34 = .ok (.iconst 1, 1) := by decide +kernel
theorem dX6_cost_35 : decode cX6_cost 35 = .ok (.ireturn, 1) := by decide +kernel
set_option maxRecDepth 20000 in
theorem ggX6_clear_X5_names : GoodIn wsX6_clear wsX5_names := goodIn_r _ [7, 8, 73, 74, 75, 76, 77, 78, 79, 80, 81] (by decide +kernel) (by decide +kernel)
set_option maxRecDepth 20000 in
theorem gX6_clear_X5_names : GoodIn wsX6_clear (wsV RX6 53 RX5 yX5_names wsX5_names) := goodIn_app (goodIn_of _ (by decide +kernel)) ggX6_clear_X5_names
set_option maxRecDepth 20000 in
theorem ggX6_clear_X5_removeAll : GoodIn wsX6_clear wsX5_removeAll := goodIn_r _ [12, 8, 13, 14, 15, 16, 73, 74, 75, 76, 77, 78, 79, 80, 81] (by decide +kernel) (by decide +kernel)
set_option maxRecDepth 20000 in
theorem gX6_clear_X5_removeAll : GoodIn wsX6_clear (wsV RX6 126 RX5 yX5_removeAll wsX5_removeAll) := goodIn_app (goodIn_of _ (by decide +kernel)) ggX6_clear_X5_removeAll
set_option maxRecDepth 20000 in
theorem ggX6_clear_X3_removeCosts : GoodIn wsX6_clear wsX3_removeCosts := goodIn_r _ [21, 22, 23, 24, 25, 26, 82, 83, 84, 85, 86, 87, 88, 89, 90, 91, 92, 93, 94] (by decide +kernel) (by decide +kernel)
set_option maxRecDepth 20000 in
theorem gX6_clear_X3_removeCosts : GoodIn wsX6_clear (wsV RX6 129 RX3 yX3_removeCosts wsX3_removeCosts) := goodIn_app (goodIn_of _ (by decide +kernel)) ggX6_clear_X3_removeCosts
set_option maxRecDepth 20000 in
theorem ggX6_clear_X6_emptyHand : GoodIn wsX6_clear wsX6_emptyHand := goodIn_r _ [31, 32, 33, 64, 65, 66, 67, 68, 69, 70, 71, 72] (by decide +kernel) (by decide +kernel)
set_option maxRecDepth 20000 in
theorem gX6_clear_X6_emptyHand : GoodIn wsX6_clear (wsV RX6 92 RX6 yX6_emptyHand wsX6_emptyHand) := goodIn_app (goodIn_of _ (by decide +kernel)) ggX6_clear_X6_emptyHand
set_option maxRecDepth 20000 in
theorem ggX6_clear_X6_assumeNone : GoodIn wsX6_clear wsX6_assumeNone := goodIn_r _ [37, 38, 39, 64, 65, 66, 67, 68, 69, 70, 71, 72] (by decide +kernel) (by decide +kernel)
set_option maxRecDepth 20000 in
theorem gX6_clear_X6_assumeNone : GoodIn wsX6_clear (wsV RX6 132 RX6 yX6_assumeNone wsX6_assumeNone) := goodIn_app (goodIn_of _ (by decide +kernel)) ggX6_clear_X6_assumeNone
set_option maxRecDepth 20000 in
theorem ggX6_clear_X6_outdate : GoodIn wsX6_clear wsX6_outdate := goodIn_r _ [43, 44, 45, 2, 46, 47, 48, 49, 50, 51, 52, 53, 54, 55, 56, 57, 58, 59, 60, 20, 61, 62, 63, 64, 65, 66, 67, 68, 69, 70, 71, 72, 95, 96, 97, 98, 99, 100, 101, 102, 103, 104, 105, 106, 82, 83, 84, 85, 86, 87, 88, 89, 90, 91, 92, 93, 94] (by decide +kernel) (by decide +kernel)
set_option maxRecDepth 20000 in
theorem gX6_clear_X6_outdate : GoodIn wsX6_clear (wsV RX6 57 RX6 yX6_outdate wsX6_outdate) := goodIn_app (goodIn_of _ (by decide +kernel)) ggX6_clear_X6_outdate
theorem dX6_clear_0 : decode cX6_clear 0 = .ok (.aload_n 0, 1) := by decide +kernel
theorem dX6_clear_1 : decode cX6_clear 1 = .ok (.getfield 10, 3) := by decide +kernel
theorem dX6_clear_4 : decode cX6_clear 4 = .ok (.invokevirtual 53, 3) := by decide +kernel
theorem dX6_clear_7 : decode cX6_clear 7 = .ok (.istore_n 1, 1) := by decide +kernel
theorem dX6_clear_8 : decode cX6_clear 8 = .ok (.aload_n 0, 1) := by decide +kernel
theorem dX6_clear_9 : decode cX6_clear 9 = .ok (.getfield 10, 3) := by decide +kernel
theorem dX6_clear_12 : decode cX6_clear 12 = .ok (.invokevirtual 126, 3) := by decide +kernel
theorem dX6_clear_15 : decode cX6_clear 15 = .ok (.aload_n 0, 1) := by decide +kernel
theorem dX6_clear_16 : decode cX6_clear 16 = .ok (.getfield 49, 3) := by decide +kernel
theorem dX6_clear_19 : decode cX6_clear 19 = .ok (.invokevirtual 129, 3) := by decide +kernel
theorem dX6_clear_22 : decode cX6_clear 22 = .ok (.aload_n 0, 1) := by decide +kernel
theorem dX6_clear_23 : decode cX6_clear 23 = .ok (.invokevirtual 92, 3) := by decide +kernel
theorem dX6_clear_26 : decode cX6_clear 26 = .ok (.aload_n 0, 1) := by decide +kernel
theorem dX6_clear_27 : decode cX6_clear 27 = .ok (.invokevirtual 132, 3) := by decide +kernel
theorem dX6_clear_30 : decode cX6_clear 30 = .ok (.aload_n 0, 1) := by decide +kernel
theorem dX6_clear_31 : decode cX6_clear 31 = .ok (.invokevirtual 57, 3) := by decide +kernel
theorem dX6_clear_34 : decode cX6_clear 34 = .ok (.iload_n 1, 1) := by decide +kernel
theorem dX6_clear_35 : decode cX6_clear 35 = .ok (.ireturn, 1) := by decide +kernel
set_option maxRecDepth 20000 in
theorem ggX6_assume_X6_isLiteral : GoodIn wsX6_assume wsX6_isLiteral := goodIn_r _ [7, 8, 9, 10, 11, 12, 13, 14, 31, 32, 33, 34, 35, 36, 37, 38, 39, 40, 41, 42, 43, 44, 45, 46, 47, 48] (by decide +kernel) (by decide +kernel)
set_option maxRecDepth 20000 in
theorem gX6_assume_X6_isLiteral : GoodIn wsX6_assume (wsV RX6 63 RX6 yX6_isLiteral wsX6_isLiteral) := goodIn_app (goodIn_of _ (by decide +kernel)) ggX6_assume_X6_isLiteral
set_option maxRecDepth 20000 in
theorem ggX6_assume_X6_nameWantedTrue : GoodIn wsX6_assume wsX6_nameWantedTrue := goodIn_r _ [17] (by decide +kernel) (by decide +kernel)
set_option maxRecDepth 20000 in
theorem gX6_assume_X6_nameWantedTrue : GoodIn wsX6_assume (va_wsS RX6 71 yX6_nameWantedTrue wsX6_nameWantedTrue) := goodIn_app (goodIn_of _ (by decide +kernel)) ggX6_assume_X6_nameWantedTrue
set_option maxRecDepth 20000 in
theorem ggX6_assume_X6_nameWantedFalse : GoodIn wsX6_assume wsX6_nameWantedFalse := goodIn_r _ [20] (by decide +kernel) (by decide +kernel)
set_option maxRecDepth 20000 in
theorem gX6_assume_X6_nameWantedFalse : GoodIn wsX6_assume (va_wsS RX6 78 yX6_nameWantedFalse wsX6_nameWantedFalse) := goodIn_app (goodIn_of _ (by decide +kernel)) ggX6_assume_X6_nameWantedFalse
set_option maxRecDepth 20000 in
theorem ggX6_assume_X6_literalsIn : GoodIn wsX6_assume wsX6_literalsIn := goodIn_r _ [23, 24, 25, 26, 27, 28, 29, 30] (by decide +kernel) (by decide +kernel)
set_option maxRecDepth 20000 in
theorem gX6_assume_X6_literalsIn : GoodIn wsX6_assume (va_wsS RX6 81 yX6_literalsIn wsX6_literalsIn) := goodIn_app (goodIn_of _ (by decide +kernel)) ggX6_assume_X6_literalsIn
theorem dX6_assume_0 : decode cX6_assume 0 = .ok (.aload_n 0, 1) := by decide +kernel
theorem dX6_assume_1 : decode cX6_assume 1 = .ok (.iload_n 1, 1) := by decide +kernel
theorem dX6_assume_2 : decode cX6_assume 2 = .ok (.invokevirtual 63, 3) := by decide +kernel
theorem dX6_assume_5 : decode cX6_assume 5 = .ok (.ifCond .ne 5, 3) := by decide +kernel
theorem dX6_assume_8 : decode cX6_assume 8 = .ok (.iconst (-1), 1) := by decide +kernel
theorem dX6_assume_9 : decode cX6_assume 9 = .ok (.ireturn, 1) := by decide +kernel
theorem dX6_assume_10 : decode cX6_assume 10 = .ok (.aload_n 0, 1) := by decide +kernel
theorem dX6_assume_11 : decode cX6_assume 11 = .ok (.dup, 1) := by decide +kernel
theorem dX6_assume_12 : decode cX6_assume 12 = .ok (.getfield 135, 3) := by decide +kernel
theorem dX6_assume_15 : decode cX6_assume 15 = .ok (.iload_n 1, 1) := by decide +kernel
theorem dX6_assume_16 : decode cX6_assume 16 = .ok (.invokestatic 71, 3) := by decide +kernel
theorem dX6_assume_19 : decode cX6_assume 19 = .ok (.ior, 1) := by decide +kernel
theorem dX6_assume_20 : decode cX6_assume 20 = .ok (.putfield 135, 3) := by decide +kernel
theorem dX6_assume_23 : decode cX6_assume 23 = .ok (.aload_n 0, 1) := by decide +kernel
theorem dX6_assume_24 : decode cX6_assume 24 = .ok (.dup, 1) := by decide +kernel
theorem dX6_assume_25 : decode cX6_assume 25 = .ok (.getfield 138, 3) := by decide +kernel
theorem dX6_assume_28 : decode cX6_assume 28 = .ok (.iload_n 1, 1) := by decide +kernel
theorem dX6_assume_29 : decode cX6_assume 29 = .ok (.invokestatic 78, 3) := by decide +kernel
theorem dX6_assume_32 : decode cX6_assume 32 = .ok (.ior, 1) := by decide +kernel
theorem dX6_assume_33 : decode cX6_assume 33 = .ok (.putfield 138, 3) := by decide +kernel
theorem dX6_assume_36 : decode cX6_assume 36 = .ok (.aload_n 0, 1) := by decide +kernel
theorem dX6_assume_37 : decode cX6_assume 37 = .ok (.getfield 135, 3) := by decide +kernel
theorem dX6_assume_40 : decode cX6_assume 40 = .ok (.aload_n 0, 1) := by decide +kernel
theorem dX6_assume_41 : decode cX6_assume 41 = .ok (.getfield 138, 3) := by decide +kernel
theorem dX6_assume_44 : decode cX6_assume 44 = .ok (.invokestatic 81, 3) := by decide +kernel
theorem dX6_assume_47 : decode cX6_assume 47 = .ok (.ireturn, 1) := by decide +kernel
set_option maxRecDepth 20000 in
theorem ggX6_forget_X6_literalsIn : GoodIn wsX6_forget wsX6_literalsIn := goodIn_r _ [6, 7, 8, 9, 10, 11, 12, 13] (by decide +kernel) (by decide +kernel)
set_option maxRecDepth 20000 in
theorem gX6_forget_X6_literalsIn : GoodIn wsX6_forget (va_wsS RX6 81 yX6_literalsIn wsX6_literalsIn) := goodIn_app (goodIn_of _ (by decide +kernel)) ggX6_forget_X6_literalsIn
set_option maxRecDepth 20000 in
theorem ggX6_forget_X6_assumeNone : GoodIn wsX6_forget wsX6_assumeNone := goodIn_r _ [17, 1, 2, 18, 19, 20, 21, 22, 23, 24, 25, 26] (by decide +kernel) (by decide +kernel)
set_option maxRecDepth 20000 in
theorem gX6_forget_X6_assumeNone : GoodIn wsX6_forget (wsV RX6 132 RX6 yX6_assumeNone wsX6_assumeNone) := goodIn_app (goodIn_of _ (by decide +kernel)) ggX6_forget_X6_assumeNone
theorem dX6_forget_0 : decode cX6_forget 0 = .ok (.aload_n 0, 1) := by decide +kernel
theorem dX6_forget_1 : decode cX6_forget 1 = .ok (.getfield 135, 3) := by decide +kernel
theorem dX6_forget_4 : decode cX6_forget 4 = .ok (.aload_n 0, 1) := by decide +kernel
theorem dX6_forget_5 : decode cX6_forget 5 = .ok (.getfield 138, 3) := by decide +kernel
theorem dX6_forget_8 : decode cX6_forget 8 = .ok (.invokestatic 81, 3) := by decide +kernel
theorem dX6_forget_11 : decode cX6_forget 11 = .ok (.istore_n 1, 1) := by decide +kernel
theorem dX6_forget_12 : decode cX6_forget 12 = .ok (.aload_n 0, 1) := by decide +kernel
theorem dX6_forget_13 : decode cX6_forget 13 = .ok (.invokevirtual 132, 3) := by decide +kernel
theorem dX6_forget_16 : decode cX6_forget 16 = .ok (.iload_n 1, 1) := by decide +kernel
theorem dX6_forget_17 : decode cX6_forget 17 = .ok (.ireturn, 1) := by decide +kernel
set_option maxRecDepth 20000 in
theorem ggX6_conflict_X6_clashFromAssumed : GoodIn wsX6_conflict wsX6_clashFromAssumed := goodIn_r _ [5, 6, 7, 8, 9, 10, 11, 12, 13, 14, 15, 16, 17, 18, 19, 20, 21, 22, 23, 24, 25, 26, 27, 28, 29, 30, 31, 32, 33, 34, 35, 36, 37, 38, 39, 40, 41, 42, 43, 44, 45, 46, 47, 48, 49, 50, 51, 52, 53, 54, 55, 56, 57, 58, 59, 60, 61, 62, 63, 64, 65, 66, 67, 68, 69, 70, 71, 72, 73, 74, 75, 76, 77, 78, 79, 80, 4, 81, 82, 83, 84, 85, 86, 87, 88, 89, 90, 91, 92, 93, 94, 95, 96, 97, 98, 99, 100, 101, 102, 103, 104, 105, 106, 107, 108, 109, 110, 111, 112, 113, 114, 115, 116, 117, 118, 119, 120, 121, 122, 123, 124, 125, 126, 127, 128, 129, 130, 131, 132, 133, 134, 135, 136, 137, 138, 139, 140, 141, 142, 143, 144, 145, 146, 147, 148, 149, 150, 151, 152, 153, 154, 155] (by decide +kernel) (by decide +kernel)
set_option maxRecDepth 20000 in
theorem gX6_conflict_X6_clashFromAssumed : GoodIn wsX6_conflict (wsV RX6 141 RX6 yX6_clashFromAssumed wsX6_clashFromAssumed) := goodIn_app (goodIn_of _ (by decide +kernel)) ggX6_conflict_X6_clashFromAssumed
theorem dX6_conflict_0 : decode cX6_conflict 0 = .ok (.aload_n 0, 1) := by decide +kernel
theorem dX6_conflict_1 : decode cX6_conflict 1 = .ok (.invokevirtual 141, 3) := by decide +kernel
theorem dX6_conflict_4 : decode cX6_conflict 4 = .ok (.ifCond .eq 7, 3) := by decide +kernel
theorem dX6_conflict_7 : decode cX6_conflict 7 = .ok (.iconst 1, 1) := by decide +kernel
theorem dX6_conflict_8 : decode cX6_conflict 8 = .ok (.goto 4, 3) := by decide +kernel
theorem dX6_conflict_11 : decode cX6_conflict 11 = .ok (.iconst 0, 1) := by decide +kernel
theorem dX6_conflict_12 : decode cX6_conflict 12 = .ok (.ireturn, 1) := by decide +kernel
set_option maxRecDepth 20000 in
theorem ggX6_known_X5_isName : GoodIn wsX6_known wsX5_isName := goodIn_r _ [7, 8, 151, 152, 153, 154, 155, 156, 157, 158, 159] (by decide +kernel) (by decide +kernel)
set_option maxRecDepth 20000 in
theorem gX6_known_X5_isName : GoodIn wsX6_known (wsV RX6 105 RX5 yX5_isName wsX5_isName) := goodIn_app (goodIn_of _ (by decide +kernel)) ggX6_known_X5_isName
set_option maxRecDepth 20000 in
theorem ggX6_known_X6_clashFromAssumed : GoodIn wsX6_known wsX6_clashFromAssumed := goodIn_r _ [13, 2, 14, 15, 16, 17, 18, 19, 20, 21, 22, 23, 24, 25, 26, 27, 28, 29, 30, 31, 6, 32, 33, 34, 35, 36, 37, 38, 39, 40, 41, 42, 43, 44, 45, 46, 47, 48, 49, 50, 51, 52, 53, 54, 55, 56, 57, 58, 59, 60, 8, 61, 62, 63, 64, 65, 66, 67, 68, 69, 70, 71, 72, 73, 74, 75, 76, 77, 78, 79, 80, 81, 82, 83, 84, 85, 12, 86, 87, 88, 89, 90, 91, 92, 93, 94, 95, 96, 97, 98, 99, 100, 101, 102, 103, 104, 105, 106, 107, 108, 109, 110, 111, 112, 113, 114, 115, 116, 117, 118, 119, 120, 121, 122, 123, 124, 125, 126, 127, 128, 129, 130, 142, 143, 144, 145, 146, 147, 148, 149, 150, 160, 161, 162, 163, 164, 165, 151, 152, 153, 154, 155, 156, 157, 158, 159, 166, 167, 168, 169, 170, 171] (by decide +kernel) (by decide +kernel)
set_option maxRecDepth 20000 in
theorem gX6_known_X6_clashFromAssumed : GoodIn wsX6_known (wsV RX6 141 RX6 yX6_clashFromAssumed wsX6_clashFromAssumed) := goodIn_app (goodIn_of _ (by decide +kernel)) ggX6_known_X6_clashFromAssumed
set_option maxRecDepth 20000 in
theorem ggX6_known_X0_trueNames : GoodIn wsX6_known wsX0_trueNames := goodIn_r _ [134, 21, 160, 161, 162, 163, 164, 165] (by decide +kernel) (by decide +kernel)
set_option maxRecDepth 20000 in
theorem gX6_known_X0_trueNames : GoodIn wsX6_known (wsV RX6 144 RX0 yX0_trueNames wsX0_trueNames) := goodIn_app (goodIn_of _ (by decide +kernel)) ggX6_known_X0_trueNames
set_option maxRecDepth 20000 in
theorem ggX6_known_X0_falseNames : GoodIn wsX6_known wsX0_falseNames := goodIn_r _ [138, 22, 160, 161, 162, 163, 164, 165] (by decide +kernel) (by decide +kernel)
set_option maxRecDepth 20000 in
theorem gX6_known_X0_falseNames : GoodIn wsX6_known (wsV RX6 147 RX0 yX0_falseNames wsX0_falseNames) := goodIn_app (goodIn_of _ (by decide +kernel)) ggX6_known_X0_falseNames
set_option maxRecDepth 20000 in
theorem ggX6_known_X6_truthOf : GoodIn wsX6_known wsX6_truthOf := goodIn_r _ [141] (by decide +kernel) (by decide +kernel)
set_option maxRecDepth 20000 in
theorem gX6_known_X6_truthOf : GoodIn wsX6_known (va_wsS RX6 150 yX6_truthOf wsX6_truthOf) := goodIn_app (goodIn_of _ (by decide +kernel)) ggX6_known_X6_truthOf
theorem dX6_known_0 : decode cX6_known 0 = .ok (.aload_n 0, 1) := by decide +kernel
theorem dX6_known_1 : decode cX6_known 1 = .ok (.getfield 10, 3) := by decide +kernel
theorem dX6_known_4 : decode cX6_known 4 = .ok (.iload_n 1, 1) := by decide +kernel
theorem dX6_known_5 : decode cX6_known 5 = .ok (.invokevirtual 105, 3) := by decide +kernel
theorem dX6_known_8 : decode cX6_known 8 = .ok (.ifCond .ne 5, 3) := by decide +kernel
theorem dX6_known_11 : decode cX6_known 11 = .ok (.iconst (-1), 1) := by decide +kernel
theorem dX6_known_12 : decode cX6_known 12 = .ok (.ireturn, 1) := by decide +kernel
theorem dX6_known_13 : decode cX6_known 13 = .ok (.aload_n 0, 1) := by decide +kernel
theorem dX6_known_14 : decode cX6_known 14 = .ok (.invokevirtual 141, 3) := by decide +kernel
theorem dX6_known_17 : decode cX6_known 17 = .ok (.ifCond .eq 6, 3) := by decide +kernel
theorem dX6_known_20 : decode cX6_known 20 = .ok (.bipush (-2), 2) := by decide +kernel
theorem dX6_known_22 : decode cX6_known 22 = .ok (.ireturn, 1) := by decide +kernel
theorem dX6_known_23 : decode cX6_known 23 = .ok (.iload_n 1, 1) := by decide +kernel
theorem dX6_known_24 : decode cX6_known 24 = .ok (.aload_n 0, 1) := by decide +kernel
theorem dX6_known_25 : decode cX6_known 25 = .ok (.getfield 31, 3) := by decide +kernel
theorem dX6_known_28 : decode cX6_known 28 = .ok (.invokevirtual 144, 3) := by decide +kernel
theorem dX6_known_31 : decode cX6_known 31 = .ok (.aload_n 0, 1) := by decide +kernel
theorem dX6_known_32 : decode cX6_known 32 = .ok (.getfield 31, 3) := by decide +kernel
theorem dX6_known_35 : decode cX6_known 35 = .ok (.invokevirtual 147, 3) := by decide +kernel
theorem dX6_known_38 : decode cX6_known 38 = .ok (.invokestatic 150, 3) := by decide +kernel
theorem dX6_known_41 : decode cX6_known 41 = .ok (.ireturn, 1) := by decide +kernel
set_option maxRecDepth 20000 in
theorem ggX6_lemma_X2_howMany : GoodIn wsX6_lemma wsX2_howMany := goodIn_r _ [9, 10, 141, 142, 143] (by decide +kernel) (by decide +kernel)
set_option maxRecDepth 20000 in
theorem gX6_lemma_X2_howMany : GoodIn wsX6_lemma (wsV RX6 154 RX2 yX2_howMany wsX2_howMany) := goodIn_app (goodIn_of _ (by decide +kernel)) ggX6_lemma_X2_howMany
set_option maxRecDepth 20000 in
theorem ggX6_lemma_X6_emptyHand : GoodIn wsX6_lemma wsX6_emptyHand := goodIn_r _ [15, 2, 3, 132, 133, 134, 135, 136, 137, 138, 139, 140] (by decide +kernel) (by decide +kernel)
set_option maxRecDepth 20000 in
theorem gX6_lemma_X6_emptyHand : GoodIn wsX6_lemma (wsV RX6 92 RX6 yX6_emptyHand wsX6_emptyHand) := goodIn_app (goodIn_of _ (by decide +kernel)) ggX6_lemma_X6_emptyHand
set_option maxRecDepth 20000 in
theorem ggX6_lemma_X0_clashes : GoodIn wsX6_lemma wsX0_clashes := goodIn_r _ [20, 21, 22, 23, 24, 25, 26, 19, 27, 28, 29, 30, 31, 32, 33, 34, 35, 36, 37, 38, 39, 40, 41, 42, 43, 44, 45, 46, 47, 48, 49, 50, 51, 52, 53, 54, 55, 56, 57, 58, 59, 60, 61, 62, 63, 64, 65, 66, 67, 68, 69, 70, 71, 72, 73, 74, 75, 76, 77, 78, 79, 80, 81, 82, 83, 84, 85, 86, 87, 14, 88, 89, 90, 91, 92, 93, 94, 95, 96, 97, 98, 99, 100, 101, 6, 7, 8, 9, 10, 102, 103, 104, 105, 106, 107, 108, 109, 110, 111, 112, 113, 114, 115, 116, 117, 118, 119, 120, 121, 122, 123, 124, 125, 126, 127, 144, 145, 146, 147, 148, 149, 150, 151, 152, 153, 154, 155, 156, 157, 158, 141, 142, 143, 159, 160, 161] (by decide +kernel) (by decide +kernel)
set_option maxRecDepth 20000 in
theorem gX6_lemma_X0_clashes : GoodIn wsX6_lemma (wsV RX6 155 RX0 yX0_clashes wsX0_clashes) := goodIn_app (goodIn_of _ (by decide +kernel)) ggX6_lemma_X0_clashes
set_option maxRecDepth 20000 in
theorem ggX6_lemma_X2_add : GoodIn wsX6_lemma wsX2_add := goodIn_r _ [131, 10, 106, 111, 141, 142, 143] (by decide +kernel) (by decide +kernel)
set_option maxRecDepth 20000 in
theorem gX6_lemma_X2_add : GoodIn wsX6_lemma (wsV RX6 159 RX2 yX2_add wsX2_add) := goodIn_app (goodIn_of _ (by decide +kernel)) ggX6_lemma_X2_add
theorem dX6_lemma_0 : decode cX6_lemma 0 = .ok (.aload_n 0, 1) := by decide +kernel
theorem dX6_lemma_1 : decode cX6_lemma 1 = .ok (.getfield 19, 3) := by decide +kernel
theorem dX6_lemma_4 : decode cX6_lemma 4 = .ok (.invokevirtual 154, 3) := by decide +kernel
theorem dX6_lemma_7 : decode cX6_lemma 7 = .ok (.bipush 40, 2) := by decide +kernel
theorem dX6_lemma_9 : decode cX6_lemma 9 = .ok (.if_icmp .lt 6, 3) := by decide +kernel
theorem dX6_lemma_12 : decode cX6_lemma 12 = .ok (.bipush (-4), 2) := by decide +kernel
theorem dX6_lemma_14 : decode cX6_lemma 14 = .ok (.ireturn, 1) := by decide +kernel
theorem dX6_lemma_15 : decode cX6_lemma 15 = .ok (.aload_n 0, 1) := by decide +kernel
theorem dX6_lemma_16 : decode cX6_lemma 16 = .ok (.getfield 67, 3) := by decide +kernel
theorem dX6_lemma_19 : decode cX6_lemma 19 = .ok (.istore_n 1, 1) := by decide +kernel
theorem dX6_lemma_20 : decode cX6_lemma 20 = .ok (.aload_n 0, 1) := by decide +kernel
theorem dX6_lemma_21 : decode cX6_lemma 21 = .ok (.getfield 75, 3) := by decide +kernel
theorem dX6_lemma_24 : decode cX6_lemma 24 = .ok (.istore_n 2, 1) := by decide +kernel
theorem dX6_lemma_25 : decode cX6_lemma 25 = .ok (.aload_n 0, 1) := by decide +kernel
theorem dX6_lemma_26 : decode cX6_lemma 26 = .ok (.invokevirtual 92, 3) := by decide +kernel
theorem dX6_lemma_29 : decode cX6_lemma 29 = .ok (.aload_n 0, 1) := by decide +kernel
theorem dX6_lemma_30 : decode cX6_lemma 30 = .ok (.getfield 31, 3) := by decide +kernel
theorem dX6_lemma_33 : decode cX6_lemma 33 = .ok (.iload_n 2, 1) := by decide +kernel
theorem dX6_lemma_34 : decode cX6_lemma 34 = .ok (.iload_n 1, 1) := by decide +kernel
theorem dX6_lemma_35 : decode cX6_lemma 35 = .ok (.iconst 1, 1) := by decide +kernel
theorem dX6_lemma_36 : decode cX6_lemma 36 = .ok (.invokevirtual 155, 3) := by decide +kernel
theorem dX6_lemma_39 : decode cX6_lemma 39 = .ok (.ifCond .ne 5, 3) := by decide +kernel
theorem dX6_lemma_42 : decode cX6_lemma 42 = .ok (.iconst 0, 1) := by decide +kernel
theorem dX6_lemma_43 : decode cX6_lemma 43 = .ok (.ireturn, 1) := by decide +kernel
theorem dX6_lemma_44 : decode cX6_lemma 44 = .ok (.aload_n 0, 1) := by decide +kernel
theorem dX6_lemma_45 : decode cX6_lemma 45 = .ok (.getfield 19, 3) := by decide +kernel
theorem dX6_lemma_48 : decode cX6_lemma 48 = .ok (.iload_n 1, 1) := by decide +kernel
theorem dX6_lemma_49 : decode cX6_lemma 49 = .ok (.iload_n 2, 1) := by decide +kernel
theorem dX6_lemma_50 : decode cX6_lemma 50 = .ok (.invokevirtual 159, 3) := by decide +kernel
theorem dX6_lemma_53 : decode cX6_lemma 53 = .ok (.iconst 1, 1) := by decide +kernel
theorem dX6_lemma_54 : decode cX6_lemma 54 = .ok (.ireturn, 1) := by decide +kernel
set_option maxRecDepth 20000 in
theorem ggX6_lemmas_X2_howMany : GoodIn wsX6_lemmas wsX2_howMany := goodIn_r _ [6, 7, 17, 18, 19] (by decide +kernel) (by decide +kernel)
set_option maxRecDepth 20000 in
theorem gX6_lemmas_X2_howMany : GoodIn wsX6_lemmas (wsV RX6 154 RX2 yX2_howMany wsX2_howMany) := goodIn_app (goodIn_of _ (by decide +kernel)) ggX6_lemmas_X2_howMany
theorem dX6_lemmas_0 : decode cX6_lemmas 0 = .ok (.aload_n 0, 1) := by decide +kernel
theorem dX6_lemmas_1 : decode cX6_lemmas 1 = .ok (.getfield 19, 3) := by decide +kernel
theorem dX6_lemmas_4 : decode cX6_lemmas 4 = .ok (.invokevirtual 154, 3) := by decide +kernel
theorem dX6_lemmas_7 : decode cX6_lemmas 7 = .ok (.ireturn, 1) := by decide +kernel
set_option maxRecDepth 20000 in
theorem ggX6_search_X4_run : GoodIn wsX6_search wsX4_run := goodIn_r _ [6, 7, 8, 9, 10, 11, 12, 13, 14, 5, 15, 16, 17, 18, 19, 20, 21, 22, 23, 24, 25, 26, 27, 28, 29, 30, 31, 32, 33, 34, 35, 36, 37, 38, 39, 40, 41, 42, 43, 44, 45, 46, 47, 48, 49, 50, 51, 52, 53, 54, 55, 56, 57, 58, 59, 60, 61, 62, 63, 64, 65, 66, 67, 68, 69, 70, 71, 72, 73, 74, 75, 76, 77, 78, 79, 80, 81, 82, 83, 84, 85, 86, 87, 88, 89, 90, 91, 92, 93, 94, 95, 96, 97, 98, 99, 100, 101, 102, 103, 104, 105, 106, 107, 108, 109, 110, 111, 112, 113, 114, 115, 116, 117, 118, 119, 120, 121, 122, 123, 124, 125, 126, 127, 128, 129, 130, 131, 132, 133, 134, 135, 136, 137, 138, 139, 140, 141, 142, 143, 144, 145, 146, 147, 148, 149, 150, 151, 152, 153, 154, 155, 156, 157, 158, 159, 160, 161, 162, 163, 164, 165, 166, 167, 168, 169, 170, 171, 172, 173, 174, 175, 176, 177, 178, 179, 180, 181, 182, 196, 197, 198, 199, 200, 201, 202, 203, 204, 205, 206, 207, 208, 209, 210, 211, 212, 213, 214, 215, 216, 217, 218, 219, 220, 221, 222, 223, 224, 225] (by decide +kernel) (by decide +kernel)
set_option maxRecDepth 20000 in
theorem gX6_search_X4_run : GoodIn wsX6_search (wsV RX6 162 RX4 yX4_run wsX4_run) := goodIn_app (goodIn_of _ (by decide +kernel)) ggX6_search_X4_run
set_option maxRecDepth 20000 in
theorem ggX6_search_X4_hasModel : GoodIn wsX6_search wsX4_hasModel := goodIn_r _ [186, 17, 196, 197, 198, 199, 200, 201, 202, 203, 204] (by decide +kernel) (by decide +kernel)
set_option maxRecDepth 20000 in
theorem gX6_search_X4_hasModel : GoodIn wsX6_search (wsV RX6 165 RX4 yX4_hasModel wsX4_hasModel) := goodIn_app (goodIn_of _ (by decide +kernel)) ggX6_search_X4_hasModel
theorem dX6_search_0 : decode cX6_search 0 = .ok (.aload_n 0, 1) := by decide +kernel
theorem dX6_search_1 : decode cX6_search 1 = .ok (.getfield 40, 3) := by decide +kernel
theorem dX6_search_4 : decode cX6_search 4 = .ok (.invokevirtual 162, 3) := by decide +kernel
theorem dX6_search_7 : decode cX6_search 7 = .ok (.aload_n 0, 1) := by decide +kernel
theorem dX6_search_8 : decode cX6_search 8 = .ok (.getfield 40, 3) := by decide +kernel
theorem dX6_search_11 : decode cX6_search 11 = .ok (.invokevirtual 165, 3) := by decide +kernel
theorem dX6_search_14 : decode cX6_search 14 = .ok (.ifCond .eq 7, 3) := by decide +kernel
theorem dX6_search_17 : decode cX6_search 17 = .ok (.iconst 1, 1) := by decide +kernel
theorem dX6_search_18 : decode cX6_search 18 = .ok (.goto 4, 3) := by decide +kernel
theorem dX6_search_21 : decode cX6_search 21 = .ok (.iconst 0, 1) := by decide +kernel
theorem dX6_search_22 : decode cX6_search 22 = .ok (.ireturn, 1) := by decide +kernel
set_option maxRecDepth 20000 in
theorem ggX6_value_X5_isName : GoodIn wsX6_value wsX5_isName := goodIn_r _ [7, 8, 205, 206, 207, 208, 209, 210, 211, 212, 213] (by decide +kernel) (by decide +kernel)
set_option maxRecDepth 20000 in
theorem gX6_value_X5_isName : GoodIn wsX6_value (wsV RX6 105 RX5 yX5_isName wsX5_isName) := goodIn_app (goodIn_of _ (by decide +kernel)) ggX6_value_X5_isName
set_option maxRecDepth 20000 in
theorem ggX6_value_X4_run : GoodIn wsX6_value wsX4_run := goodIn_r _ [13, 14, 15, 16, 17, 18, 19, 20, 21, 12, 22, 23, 24, 25, 26, 27, 28, 29, 30, 31, 32, 33, 34, 35, 36, 37, 38, 39, 40, 41, 42, 43, 44, 45, 46, 47, 48, 49, 50, 51, 52, 53, 6, 54, 55, 56, 57, 58, 59, 60, 61, 62, 63, 64, 65, 66, 67, 68, 69, 70, 71, 72, 73, 74, 75, 76, 77, 78, 79, 80, 81, 82, 8, 83, 84, 85, 86, 87, 88, 89, 90, 91, 92, 93, 94, 95, 96, 97, 98, 99, 100, 101, 102, 103, 104, 105, 106, 107, 108, 109, 110, 111, 112, 113, 114, 115, 116, 117, 118, 119, 120, 121, 122, 123, 124, 125, 126, 127, 128, 129, 130, 131, 132, 133, 134, 135, 136, 137, 138, 139, 140, 141, 142, 143, 144, 145, 146, 147, 148, 149, 150, 151, 152, 153, 154, 155, 156, 157, 158, 159, 160, 161, 162, 163, 164, 165, 166, 167, 168, 169, 170, 171, 172, 173, 174, 175, 176, 177, 178, 179, 180, 181, 182, 183, 184, 185, 186, 187, 214, 215, 216, 217, 218, 219, 220, 221, 222, 223, 224, 225, 226, 227, 228, 229, 230, 231, 205, 206, 207, 208, 209, 210, 211, 212, 213, 232, 233, 234] (by decide +kernel) (by decide +kernel)
set_option maxRecDepth 20000 in
theorem gX6_value_X4_run : GoodIn wsX6_value (wsV RX6 162 RX4 yX4_run wsX4_run) := goodIn_app (goodIn_of _ (by decide +kernel)) ggX6_value_X4_run
set_option maxRecDepth 20000 in
theorem ggX6_value_X4_hasModel : GoodIn wsX6_value wsX4_hasModel := goodIn_r _ [191, 24, 214, 215, 216, 217, 218, 219, 220, 221, 222] (by decide +kernel) (by decide +kernel)
set_option maxRecDepth 20000 in
theorem gX6_value_X4_hasModel : GoodIn wsX6_value (wsV RX6 165 RX4 yX4_hasModel wsX4_hasModel) := goodIn_app (goodIn_of _ (by decide +kernel)) ggX6_value_X4_hasModel
set_option maxRecDepth 20000 in
theorem ggX6_value_X4_firstModel : GoodIn wsX6_value wsX4_firstModel := goodIn_r _ [195, 25, 214, 215, 216, 217, 218, 219, 220, 221, 222] (by decide +kernel) (by decide +kernel)
set_option maxRecDepth 20000 in
theorem gX6_value_X4_firstModel : GoodIn wsX6_value (wsV RX6 168 RX4 yX4_firstModel wsX4_firstModel) := goodIn_app (goodIn_of _ (by decide +kernel)) ggX6_value_X4_firstModel
theorem dX6_value_0 : decode cX6_value 0 = .ok (.aload_n 0, 1) := by decide +kernel
theorem dX6_value_1 : decode cX6_value 1 = .ok (.getfield 10, 3) := by decide +kernel
theorem dX6_value_4 : decode cX6_value 4 = .ok (.iload_n 1, 1) := by decide +kernel
theorem dX6_value_5 : decode cX6_value 5 = .ok (.invokevirtual 105, 3) := by decide +kernel
theorem dX6_value_8 : decode cX6_value 8 = .ok (.ifCond .ne 5, 3) := by decide +kernel
theorem dX6_value_11 : decode cX6_value 11 = .ok (.iconst (-1), 1) := by decide +kernel
theorem dX6_value_12 : decode cX6_value 12 = .ok (.ireturn, 1) := by decide +kernel
theorem dX6_value_13 : decode cX6_value 13 = .ok (.aload_n 0, 1) := by decide +kernel
theorem dX6_value_14 : decode cX6_value 14 = .ok (.getfield 40, 3) := by decide +kernel
theorem dX6_value_17 : decode cX6_value 17 = .ok (.invokevirtual 162, 3) := by decide +kernel
theorem dX6_value_20 : decode cX6_value 20 = .ok (.aload_n 0, 1) := by decide +kernel
theorem dX6_value_21 : decode cX6_value 21 = .ok (.getfield 40, 3) := by decide +kernel
theorem dX6_value_24 : decode cX6_value 24 = .ok (.invokevirtual 165, 3) := by decide +kernel
theorem dX6_value_27 : decode cX6_value 27 = .ok (.ifCond .ne 6, 3) := by decide +kernel
theorem dX6_value_30 : decode cX6_value 30 = .ok (.bipush (-3), 2) := by decide +kernel
theorem dX6_value_32 : decode cX6_value 32 = .ok (.ireturn, 1) := by decide +kernel
theorem dX6_value_33 : decode cX6_value 33 = .ok (.aload_n 0, 1) := by decide +kernel
theorem dX6_value_34 : decode cX6_value 34 = .ok (.getfield 40, 3) := by decide +kernel
theorem dX6_value_37 : decode cX6_value 37 = .ok (.invokevirtual 168, 3) := by decide +kernel
theorem dX6_value_40 : decode cX6_value 40 = .ok (.iload_n 1, 1) := by decide +kernel
theorem dX6_value_41 : decode cX6_value 41 = .ok (.ishr, 1) := by decide +kernel
theorem dX6_value_42 : decode cX6_value 42 = .ok (.iconst 1, 1) := by decide +kernel
theorem dX6_value_43 : decode cX6_value 43 = .ok (.iand, 1) := by decide +kernel
theorem dX6_value_44 : decode cX6_value 44 = .ok (.ireturn, 1) := by decide +kernel
set_option maxRecDepth 20000 in
theorem ggX6_told_X4_run : GoodIn wsX6_told wsX4_run := goodIn_r _ [6, 7, 8, 9, 10, 11, 12, 13, 14, 5, 15, 16, 17, 18, 19, 20, 21, 22, 23, 24, 25, 26, 27, 28, 29, 30, 31, 32, 33, 34, 35, 36, 37, 38, 39, 40, 41, 42, 43, 44, 45, 46, 47, 48, 49, 50, 51, 52, 53, 54, 55, 56, 57, 58, 59, 60, 61, 62, 63, 64, 65, 66, 67, 68, 69, 70, 71, 72, 73, 74, 75, 76, 77, 78, 79, 80, 81, 82, 83, 84, 85, 86, 87, 88, 89, 90, 91, 92, 93, 94, 95, 96, 97, 98, 99, 100, 101, 102, 103, 104, 105, 106, 107, 108, 109, 110, 111, 112, 113, 114, 115, 116, 117, 118, 119, 120, 121, 122, 123, 124, 125, 126, 127, 128, 129, 130, 131, 132, 133, 134, 135, 136, 137, 138, 139, 140, 141, 142, 143, 144, 145, 146, 147, 148, 149, 150, 151, 152, 153, 154, 155, 156, 157, 158, 159, 160, 161, 162, 163, 164, 165, 166, 167, 168, 169, 170, 171, 172, 173, 174, 175, 176, 177, 178, 179, 180, 181, 182, 205, 206, 207, 208, 209, 210, 211, 212, 213, 214, 215, 216, 217, 218, 219, 220, 221, 222, 223, 224, 225, 226, 227, 228, 229, 230, 231, 232, 233, 234] (by decide +kernel) (by decide +kernel)
set_option maxRecDepth 20000 in
theorem gX6_told_X4_run : GoodIn wsX6_told (wsV RX6 162 RX4 yX4_run wsX4_run) := goodIn_app (goodIn_of _ (by decide +kernel)) ggX6_told_X4_run
set_option maxRecDepth 20000 in
theorem ggX6_told_X4_conflicts : GoodIn wsX6_told wsX4_conflicts := goodIn_r _ [186, 11, 205, 206, 207, 208, 209, 210, 211, 212, 213] (by decide +kernel) (by decide +kernel)
set_option maxRecDepth 20000 in
theorem gX6_told_X4_conflicts : GoodIn wsX6_told (wsV RX6 171 RX4 yX4_conflicts wsX4_conflicts) := goodIn_app (goodIn_of _ (by decide +kernel)) ggX6_told_X4_conflicts
set_option maxRecDepth 20000 in
theorem ggX6_told_X4_choicesMade : GoodIn wsX6_told wsX4_choicesMade := goodIn_r _ [190, 19, 205, 206, 207, 208, 209, 210, 211, 212, 213] (by decide +kernel) (by decide +kernel)
set_option maxRecDepth 20000 in
theorem gX6_told_X4_choicesMade : GoodIn wsX6_told (wsV RX6 174 RX4 yX4_choicesMade wsX4_choicesMade) := goodIn_app (goodIn_of _ (by decide +kernel)) ggX6_told_X4_choicesMade
set_option maxRecDepth 20000 in
theorem ggX6_told_X4_learnedClauses : GoodIn wsX6_told wsX4_learnedClauses := goodIn_r _ [194, 16, 195, 139, 140, 23, 141, 25, 205, 206, 207, 208, 209, 210, 211, 212, 213, 214, 215, 216] (by decide +kernel) (by decide +kernel)
set_option maxRecDepth 20000 in
theorem gX6_told_X4_learnedClauses : GoodIn wsX6_told (wsV RX6 177 RX4 yX4_learnedClauses wsX4_learnedClauses) := goodIn_app (goodIn_of _ (by decide +kernel)) ggX6_told_X4_learnedClauses
theorem dX6_told_0 : decode cX6_told 0 = .ok (.aload_n 0, 1) := by decide +kernel
theorem dX6_told_1 : decode cX6_told 1 = .ok (.getfield 40, 3) := by decide +kernel
theorem dX6_told_4 : decode cX6_told 4 = .ok (.invokevirtual 162, 3) := by decide +kernel
theorem dX6_told_7 : decode cX6_told 7 = .ok (.iload_n 1, 1) := by decide +kernel
theorem dX6_told_8 : decode cX6_told 8 = .ok (.tableswitch 52 0 2 #[28, 36, 44], 28) := by decide +kernel
theorem dX6_told_36 : decode cX6_told 36 = .ok (.aload_n 0, 1) := by decide +kernel
theorem dX6_told_37 : decode cX6_told 37 = .ok (.getfield 40, 3) := by decide +kernel
theorem dX6_told_40 : decode cX6_told 40 = .ok (.invokevirtual 171, 3) := by decide +kernel
theorem dX6_told_43 : decode cX6_told 43 = .ok (.ireturn, 1) := by decide +kernel
theorem dX6_told_44 : decode cX6_told 44 = .ok (.aload_n 0, 1) := by decide +kernel
theorem dX6_told_45 : decode cX6_told 45 = .ok (.getfield 40, 3) := by decide +kernel
theorem dX6_told_48 : decode cX6_told 48 = .ok (.invokevirtual 174, 3) := by decide +kernel
theorem dX6_told_51 : decode cX6_told 51 = .ok (.ireturn, 1) := by decide +kernel
theorem dX6_told_52 : decode cX6_told 52 = .ok (.aload_n 0, 1) := by decide +kernel
theorem dX6_told_53 : decode cX6_told 53 = .ok (.getfield 40, 3) := by decide +kernel
theorem dX6_told_56 : decode cX6_told 56 = .ok (.invokevirtual 177, 3) := by decide +kernel
theorem dX6_told_59 : decode cX6_told 59 = .ok (.ireturn, 1) := by decide +kernel
theorem dX6_told_60 : decode cX6_told 60 = .ok (.bipush (-2), 2) := by decide +kernel
theorem dX6_told_62 : decode cX6_told 62 = .ok (.ireturn, 1) := by decide +kernel
set_option maxRecDepth 20000 in
theorem ggX6_learned_X4_run : GoodIn wsX6_learned wsX4_run := goodIn_r _ [6, 7, 8, 9, 10, 11, 12, 13, 14, 5, 15, 16, 17, 18, 19, 20, 21, 22, 23, 24, 25, 26, 27, 28, 29, 30, 31, 32, 33, 34, 35, 36, 37, 38, 39, 40, 41, 42, 43, 44, 45, 46, 47, 48, 49, 50, 51, 52, 53, 54, 55, 56, 57, 58, 59, 60, 61, 62, 63, 64, 65, 66, 67, 68, 69, 70, 71, 72, 73, 74, 75, 76, 77, 78, 79, 80, 81, 82, 83, 84, 85, 86, 87, 88, 89, 90, 91, 92, 93, 94, 95, 96, 97, 98, 99, 100, 101, 102, 103, 104, 105, 106, 107, 108, 109, 110, 111, 112, 113, 114, 115, 116, 117, 118, 119, 120, 121, 122, 123, 124, 125, 126, 127, 128, 129, 130, 131, 132, 133, 134, 135, 136, 137, 138, 139, 140, 141, 142, 143, 144, 145, 146, 147, 148, 149, 150, 151, 152, 153, 154, 155, 156, 157, 158, 159, 160, 161, 162, 163, 164, 165, 166, 167, 168, 169, 170, 171, 172, 173, 174, 175, 176, 177, 178, 179, 180, 181, 182, 208, 209, 210, 211, 212, 213, 214, 215, 216, 217, 218, 219, 220, 221, 222, 223, 224, 225, 226, 227, 228, 229, 230, 231, 232, 233, 234, 235, 236, 237] (by decide +kernel) (by decide +kernel)
set_option maxRecDepth 20000 in
theorem gX6_learned_X4_run : GoodIn wsX6_learned (wsV RX6 162 RX4 yX4_run wsX4_run) := goodIn_app (goodIn_of _ (by decide +kernel)) ggX6_learned_X4_run
set_option maxRecDepth 20000 in
theorem ggX6_learned_X4_learnedClauses : GoodIn wsX6_learned wsX4_learnedClauses := goodIn_r _ [186, 16, 187, 139, 140, 23, 141, 25, 208, 209, 210, 211, 212, 213, 214, 215, 216, 217, 218, 219] (by decide +kernel) (by decide +kernel)
set_option maxRecDepth 20000 in
theorem gX6_learned_X4_learnedClauses : GoodIn wsX6_learned (wsV RX6 177 RX4 yX4_learnedClauses wsX4_learnedClauses) := goodIn_app (goodIn_of _ (by decide +kernel)) ggX6_learned_X4_learnedClauses
set_option maxRecDepth 20000 in
theorem ggX6_learned_X4_learnedClause : GoodIn wsX6_learned wsX4_learnedClause := goodIn_r _ [191, 16, 192, 193, 194, 23, 195, 25, 175, 208, 209, 210, 211, 212, 213, 214, 215, 216, 217, 218, 219] (by decide +kernel) (by decide +kernel)
set_option maxRecDepth 20000 in
theorem gX6_learned_X4_learnedClause : GoodIn wsX6_learned (wsV RX6 180 RX4 yX4_learnedClause wsX4_learnedClause) := goodIn_app (goodIn_of _ (by decide +kernel)) ggX6_learned_X4_learnedClause
set_option maxRecDepth 20000 in
theorem ggX6_learned_X6_placeOfBit : GoodIn wsX6_learned wsX6_placeOfBit := goodIn_r _ [198] (by decide +kernel) (by decide +kernel)
set_option maxRecDepth 20000 in
theorem gX6_learned_X6_placeOfBit : GoodIn wsX6_learned (va_wsS RX6 183 yX6_placeOfBit wsX6_placeOfBit) := goodIn_app (goodIn_of _ (by decide +kernel)) ggX6_learned_X6_placeOfBit
theorem dX6_learned_0 : decode cX6_learned 0 = .ok (.aload_n 0, 1) := by decide +kernel
theorem dX6_learned_1 : decode cX6_learned 1 = .ok (.getfield 40, 3) := by decide +kernel
theorem dX6_learned_4 : decode cX6_learned 4 = .ok (.invokevirtual 162, 3) := by decide +kernel
theorem dX6_learned_7 : decode cX6_learned 7 = .ok (.iload_n 1, 1) := by decide +kernel
theorem dX6_learned_8 : decode cX6_learned 8 = .ok (.ifCond .lt 14, 3) := by decide +kernel
theorem dX6_learned_11 : decode cX6_learned 11 = .ok (.iload_n 1, 1) := by decide +kernel
theorem dX6_learned_12 : decode cX6_learned 12 = .ok (.aload_n 0, 1) := by decide +kernel
theorem dX6_learned_13 : decode cX6_learned 13 = .ok (.getfield 40, 3) := by decide +kernel
theorem dX6_learned_16 : decode cX6_learned 16 = .ok (.invokevirtual 177, 3) := by decide +kernel
theorem dX6_learned_19 : decode cX6_learned 19 = .ok (.if_icmp .lt 5, 3) := by decide +kernel
theorem dX6_learned_22 : decode cX6_learned 22 = .ok (.iconst (-1), 1) := by decide +kernel
theorem dX6_learned_23 : decode cX6_learned 23 = .ok (.ireturn, 1) := by decide +kernel
theorem dX6_learned_24 : decode cX6_learned 24 = .ok (.aload_n 0, 1) := by decide +kernel
theorem dX6_learned_25 : decode cX6_learned 25 = .ok (.getfield 40, 3) := by decide +kernel
theorem dX6_learned_28 : decode cX6_learned 28 = .ok (.iload_n 1, 1) := by decide +kernel
theorem dX6_learned_29 : decode cX6_learned 29 = .ok (.invokevirtual 180, 3) := by decide +kernel
theorem dX6_learned_32 : decode cX6_learned 32 = .ok (.i2l, 1) := by decide +kernel
theorem dX6_learned_33 : decode cX6_learned 33 = .ok (.iload_n 2, 1) := by decide +kernel
theorem dX6_learned_34 : decode cX6_learned 34 = .ok (.invokestatic 183, 3) := by decide +kernel
theorem dX6_learned_37 : decode cX6_learned 37 = .ok (.istore_n 3, 1) := by decide +kernel
theorem dX6_learned_38 : decode cX6_learned 38 = .ok (.iload_n 3, 1) := by decide +kernel
theorem dX6_learned_39 : decode cX6_learned 39 = .ok (.ifCond .ge 7, 3) := by decide +kernel
theorem dX6_learned_42 : decode cX6_learned 42 = .ok (.iconst (-1), 1) := by decide +kernel
theorem dX6_learned_43 : decode cX6_learned 43 = .ok (.goto 6, 3) := by decide +kernel
theorem dX6_learned_46 : decode cX6_learned 46 = .ok (.iconst 2, 1) := by decide +kernel
theorem dX6_learned_47 : decode cX6_learned 47 = .ok (.iload_n 3, 1) := by decide +kernel
theorem dX6_learned_48 : decode cX6_learned 48 = .ok (.imul, 1) := by decide +kernel
theorem dX6_learned_49 : decode cX6_learned 49 = .ok (.ireturn, 1) := by decide +kernel
set_option maxRecDepth 20000 in
theorem ggX6_count_X3_modelCount : GoodIn wsX6_count wsX3_modelCount := goodIn_r _ [6, 7, 8, 9, 10, 5, 11, 12, 13, 14, 15, 16, 17, 18, 19, 20, 21, 22, 23, 24, 25, 26, 27, 28, 29, 30, 31, 32, 33, 34, 35, 36, 37, 38, 39, 40, 41, 42, 43, 44, 45, 46, 47, 48, 49, 50, 51, 52, 53, 54, 55, 56, 57, 58, 59, 60, 61, 62, 63, 64, 65, 66, 67, 68, 69, 70, 71, 72, 73, 74, 75, 76, 77, 78, 79, 80, 81, 82, 83, 84, 85, 86, 87, 88, 89, 90, 91, 92, 93, 94, 95, 96, 97, 98, 99, 100, 101, 102, 103, 104, 105, 106, 107, 108, 109, 110, 111, 112, 113, 114, 124, 125, 126, 127, 128, 129, 130, 131, 132, 133, 134, 135, 136, 137, 138, 139, 140, 141, 142, 143, 144, 145] (by decide +kernel) (by decide +kernel)
set_option maxRecDepth 20000 in
theorem gX6_count_X3_modelCount : GoodIn wsX6_count (wsV RX6 187 RX3 yX3_modelCount wsX3_modelCount) := goodIn_app (goodIn_of _ (by decide +kernel)) ggX6_count_X3_modelCount
theorem dX6_count_0 : decode cX6_count 0 = .ok (.aload_n 0, 1) := by decide +kernel
theorem dX6_count_1 : decode cX6_count 1 = .ok (.getfield 49, 3) := by decide +kernel
theorem dX6_count_4 : decode cX6_count 4 = .ok (.invokevirtual 187, 3) := by decide +kernel
theorem dX6_count_7 : decode cX6_count 7 = .ok (.ireturn, 1) := by decide +kernel
set_option maxRecDepth 20000 in
theorem ggX6_fixed_X5_isName : GoodIn wsX6_fixed wsX5_isName := goodIn_r _ [7, 8, 141, 142, 143, 144, 145, 146, 147, 148, 149] (by decide +kernel) (by decide +kernel)
set_option maxRecDepth 20000 in
theorem gX6_fixed_X5_isName : GoodIn wsX6_fixed (wsV RX6 105 RX5 yX5_isName wsX5_isName) := goodIn_app (goodIn_of _ (by decide +kernel)) ggX6_fixed_X5_isName
set_option maxRecDepth 20000 in
theorem ggX6_fixed_X3_modelCount : GoodIn wsX6_fixed wsX3_modelCount := goodIn_r _ [13, 14, 15, 16, 17, 12, 18, 19, 20, 21, 22, 23, 24, 25, 26, 27, 28, 29, 30, 31, 32, 6, 33, 34, 35, 36, 37, 38, 39, 40, 41, 42, 43, 44, 45, 46, 47, 48, 49, 50, 51, 52, 53, 54, 55, 56, 57, 58, 59, 60, 61, 62, 63, 64, 65, 66, 67, 68, 69, 70, 71, 72, 8, 73, 74, 75, 76, 77, 78, 79, 80, 81, 82, 83, 84, 85, 86, 87, 88, 89, 90, 91, 92, 93, 94, 95, 96, 97, 98, 99, 100, 101, 102, 103, 104, 105, 106, 107, 108, 109, 110, 111, 112, 113, 114, 115, 116, 117, 118, 119, 150, 151, 152, 153, 154, 155, 156, 157, 158, 159, 160, 161, 162, 141, 142, 143, 144, 145, 146, 147, 148, 149] (by decide +kernel) (by decide +kernel)
set_option maxRecDepth 20000 in
theorem gX6_fixed_X3_modelCount : GoodIn wsX6_fixed (wsV RX6 187 RX3 yX3_modelCount wsX3_modelCount) := goodIn_app (goodIn_of _ (by decide +kernel)) ggX6_fixed_X3_modelCount
set_option maxRecDepth 20000 in
theorem ggX6_fixed_X3_trueInAll : GoodIn wsX6_fixed wsX3_trueInAll := goodIn_r _ [123, 21, 15, 16, 17, 12, 18, 19, 14, 20, 22, 23, 24, 25, 26, 27, 28, 29, 30, 31, 32, 6, 33, 34, 35, 36, 37, 38, 39, 40, 41, 42, 43, 44, 45, 46, 47, 48, 49, 50, 51, 52, 53, 54, 55, 56, 57, 58, 59, 60, 61, 62, 63, 64, 65, 66, 67, 68, 69, 70, 71, 72, 8, 73, 74, 75, 76, 77, 78, 79, 80, 81, 82, 83, 84, 85, 86, 87, 88, 89, 90, 91, 92, 93, 94, 95, 96, 97, 98, 99, 100, 101, 102, 103, 104, 105, 106, 107, 108, 109, 110, 111, 112, 113, 114, 115, 116, 117, 118, 119, 150, 151, 152, 153, 154, 155, 156, 157, 158, 159, 160, 161, 162, 141, 142, 143, 144, 145, 146, 147, 148, 149] (by decide +kernel) (by decide +kernel)
set_option maxRecDepth 20000 in
theorem gX6_fixed_X3_trueInAll : GoodIn wsX6_fixed (wsV RX6 190 RX3 yX3_trueInAll wsX3_trueInAll) := goodIn_app (goodIn_of _ (by decide +kernel)) ggX6_fixed_X3_trueInAll
set_option maxRecDepth 20000 in
theorem ggX6_fixed_X3_falseInAll : GoodIn wsX6_fixed wsX3_falseInAll := goodIn_r _ [127, 20, 22, 15, 16, 17, 12, 18, 19, 14, 21, 23, 24, 25, 26, 27, 28, 29, 30, 31, 32, 6, 33, 34, 35, 36, 37, 38, 39, 40, 41, 42, 43, 44, 45, 46, 47, 48, 49, 50, 51, 52, 53, 54, 55, 56, 57, 58, 59, 60, 61, 62, 63, 64, 65, 66, 67, 68, 69, 70, 71, 72, 8, 73, 74, 75, 76, 77, 78, 79, 80, 81, 82, 83, 84, 85, 86, 87, 88, 89, 90, 91, 92, 93, 94, 95, 96, 97, 98, 99, 100, 101, 102, 103, 104, 105, 106, 107, 108, 109, 110, 111, 112, 113, 114, 115, 116, 117, 118, 119, 150, 151, 152, 153, 154, 155, 156, 157, 158, 159, 160, 161, 162, 141, 142, 143, 144, 145, 146, 147, 148, 149] (by decide +kernel) (by decide +kernel)
set_option maxRecDepth 20000 in
theorem gX6_fixed_X3_falseInAll : GoodIn wsX6_fixed (wsV RX6 193 RX3 yX3_falseInAll wsX3_falseInAll) := goodIn_app (goodIn_of _ (by decide +kernel)) ggX6_fixed_X3_falseInAll
set_option maxRecDepth 20000 in
theorem ggX6_fixed_X6_truthOf : GoodIn wsX6_fixed wsX6_truthOf := goodIn_r _ [131] (by decide +kernel) (by decide +kernel)
set_option maxRecDepth 20000 in
theorem gX6_fixed_X6_truthOf : GoodIn wsX6_fixed (va_wsS RX6 150 yX6_truthOf wsX6_truthOf) := goodIn_app (goodIn_of _ (by decide +kernel)) ggX6_fixed_X6_truthOf
theorem dX6_fixed_0 : decode cX6_fixed 0 = .ok (.aload_n 0, 1) := by decide +kernel
theorem dX6_fixed_1 : decode cX6_fixed 1 = .ok (.getfield 10, 3) := by decide +kernel
theorem dX6_fixed_4 : decode cX6_fixed 4 = .ok (.iload_n 1, 1) := by decide +kernel
theorem dX6_fixed_5 : decode cX6_fixed 5 = .ok (.invokevirtual 105, 3) := by decide +kernel
theorem dX6_fixed_8 : decode cX6_fixed 8 = .ok (.ifCond .ne 5, 3) := by decide +kernel
theorem dX6_fixed_11 : decode cX6_fixed 11 = .ok (.iconst (-1), 1) := by decide +kernel
theorem dX6_fixed_12 : decode cX6_fixed 12 = .ok (.ireturn, 1) := by decide +kernel
theorem dX6_fixed_13 : decode cX6_fixed 13 = .ok (.aload_n 0, 1) := by decide +kernel
theorem dX6_fixed_14 : decode cX6_fixed 14 = .ok (.getfield 49, 3) := by decide +kernel
theorem dX6_fixed_17 : decode cX6_fixed 17 = .ok (.invokevirtual 187, 3) := by decide +kernel
theorem dX6_fixed_20 : decode cX6_fixed 20 = .ok (.ifCond .ne 6, 3) := by decide +kernel
theorem dX6_fixed_23 : decode cX6_fixed 23 = .ok (.bipush (-3), 2) := by decide +kernel
theorem dX6_fixed_25 : decode cX6_fixed 25 = .ok (.ireturn, 1) := by decide +kernel
theorem dX6_fixed_26 : decode cX6_fixed 26 = .ok (.iload_n 1, 1) := by decide +kernel
theorem dX6_fixed_27 : decode cX6_fixed 27 = .ok (.aload_n 0, 1) := by decide +kernel
theorem dX6_fixed_28 : decode cX6_fixed 28 = .ok (.getfield 49, 3) := by decide +kernel
theorem dX6_fixed_31 : decode cX6_fixed 31 = .ok (.invokevirtual 190, 3) := by decide +kernel
theorem dX6_fixed_34 : decode cX6_fixed 34 = .ok (.aload_n 0, 1) := by decide +kernel
theorem dX6_fixed_35 : decode cX6_fixed 35 = .ok (.getfield 49, 3) := by decide +kernel
theorem dX6_fixed_38 : decode cX6_fixed 38 = .ok (.invokevirtual 193, 3) := by decide +kernel
theorem dX6_fixed_41 : decode cX6_fixed 41 = .ok (.invokestatic 150, 3) := by decide +kernel
theorem dX6_fixed_44 : decode cX6_fixed 44 = .ok (.ireturn, 1) := by decide +kernel
set_option maxRecDepth 20000 in
theorem ggX6_best_X3_modelCount : GoodIn wsX6_best wsX3_modelCount := goodIn_r _ [6, 7, 8, 9, 10, 5, 11, 12, 13, 14, 15, 16, 17, 18, 19, 20, 21, 22, 23, 24, 25, 26, 27, 28, 29, 30, 31, 32, 33, 34, 35, 36, 37, 38, 39, 40, 41, 42, 43, 44, 45, 46, 47, 48, 49, 50, 51, 52, 53, 54, 55, 56, 57, 58, 59, 60, 61, 62, 63, 64, 65, 66, 67, 68, 69, 70, 71, 72, 73, 74, 75, 76, 77, 78, 79, 80, 81, 82, 83, 84, 85, 86, 87, 88, 89, 90, 91, 92, 93, 94, 95, 96, 97, 98, 99, 100, 101, 102, 103, 104, 105, 106, 107, 108, 109, 110, 111, 112, 113, 114, 128, 129, 130, 131, 132, 133, 134, 135, 136, 137, 138, 139, 140, 141, 142, 143, 144, 145, 146, 147, 148, 149] (by decide +kernel) (by decide +kernel)
set_option maxRecDepth 20000 in
theorem gX6_best_X3_modelCount : GoodIn wsX6_best (wsV RX6 187 RX3 yX3_modelCount wsX3_modelCount) := goodIn_app (goodIn_of _ (by decide +kernel)) ggX6_best_X3_modelCount
set_option maxRecDepth 20000 in
theorem ggX6_best_X3_leastCost : GoodIn wsX6_best wsX3_leastCost := goodIn_r _ [118, 16, 8, 9, 10, 5, 11, 12, 7, 13, 14, 15, 17, 18, 19, 20, 21, 22, 23, 24, 25, 26, 27, 28, 29, 30, 31, 32, 33, 34, 35, 36, 37, 38, 39, 40, 41, 42, 43, 44, 45, 46, 47, 48, 49, 50, 51, 52, 53, 54, 55, 56, 57, 58, 59, 60, 61, 62, 63, 64, 65, 66, 67, 68, 69, 70, 71, 72, 73, 74, 75, 76, 77, 78, 79, 80, 81, 82, 83, 84, 85, 86, 87, 88, 89, 90, 91, 92, 93, 94, 95, 96, 97, 98, 99, 100, 101, 102, 103, 104, 105, 106, 107, 108, 109, 110, 111, 112, 113, 114, 128, 129, 130, 131, 132, 133, 134, 135, 136, 137, 138, 139, 140, 141, 142, 143, 144, 145, 146, 147, 148, 149] (by decide +kernel) (by decide +kernel)
set_option maxRecDepth 20000 in
theorem gX6_best_X3_leastCost : GoodIn wsX6_best (wsV RX6 196 RX3 yX3_leastCost wsX3_leastCost) := goodIn_app (goodIn_of _ (by decide +kernel)) ggX6_best_X3_leastCost
theorem dX6_best_0 : decode cX6_best 0 = .ok (.aload_n 0, 1) := by decide +kernel
theorem dX6_best_1 : decode cX6_best 1 = .ok (.getfield 49, 3) := by decide +kernel
theorem dX6_best_4 : decode cX6_best 4 = .ok (.invokevirtual 187, 3) := by decide +kernel
theorem dX6_best_7 : decode cX6_best 7 = .ok (.ifCond .ne 8, 3) := by decide +kernel
theorem dX6_best_10 : decode cX6_best 10 = .ok (.bipush (-3), 2) := by decide +kernel
theorem dX6_best_12 : decode cX6_best 12 = .ok (.goto 10, 3) := by decide +kernel
theorem dX6_best_15 : decode cX6_best 15 = .ok (.aload_n 0, 1) := by decide +kernel
theorem dX6_best_16 : decode cX6_best 16 = .ok (.getfield 49, 3) := by decide +kernel
theorem dX6_best_19 : decode cX6_best 19 = .ok (.invokevirtual 196, 3) := by decide +kernel
theorem dX6_best_22 : decode cX6_best 22 = .ok (.ireturn, 1) := by decide +kernel
set_option maxRecDepth 20000 in
theorem ggX6_bestValue_X5_isName : GoodIn wsX6_bestValue wsX5_isName := goodIn_r _ [7, 8, 133, 134, 135, 136, 137, 138, 139, 140, 141] (by decide +kernel) (by decide +kernel)
set_option maxRecDepth 20000 in
theorem gX6_bestValue_X5_isName : GoodIn wsX6_bestValue (wsV RX6 105 RX5 yX5_isName wsX5_isName) := goodIn_app (goodIn_of _ (by decide +kernel)) ggX6_bestValue_X5_isName
set_option maxRecDepth 20000 in
theorem ggX6_bestValue_X3_modelCount : GoodIn wsX6_bestValue wsX3_modelCount := goodIn_r _ [13, 14, 15, 16, 17, 12, 18, 19, 20, 21, 22, 23, 24, 25, 26, 27, 28, 29, 30, 31, 32, 6, 33, 34, 35, 36, 37, 38, 39, 40, 41, 42, 43, 44, 45, 46, 47, 48, 49, 50, 51, 52, 53, 54, 55, 56, 57, 58, 59, 60, 61, 62, 63, 64, 65, 66, 67, 68, 69, 70, 71, 72, 8, 73, 74, 75, 76, 77, 78, 79, 80, 81, 82, 83, 84, 85, 86, 87, 88, 89, 90, 91, 92, 93, 94, 95, 96, 97, 98, 99, 100, 101, 102, 103, 104, 105, 106, 107, 108, 109, 110, 111, 112, 113, 114, 115, 116, 117, 118, 119, 142, 143, 144, 145, 146, 147, 148, 149, 150, 151, 152, 153, 154, 133, 134, 135, 136, 137, 138, 139, 140, 141] (by decide +kernel) (by decide +kernel)
set_option maxRecDepth 20000 in
theorem gX6_bestValue_X3_modelCount : GoodIn wsX6_bestValue (wsV RX6 187 RX3 yX3_modelCount wsX3_modelCount) := goodIn_app (goodIn_of _ (by decide +kernel)) ggX6_bestValue_X3_modelCount
set_option maxRecDepth 20000 in
theorem ggX6_bestValue_X3_firstBest : GoodIn wsX6_bestValue wsX3_firstBest := goodIn_r _ [123, 24, 15, 16, 17, 12, 18, 19, 14, 20, 21, 22, 23, 25, 26, 27, 28, 29, 30, 31, 32, 6, 33, 34, 35, 36, 37, 38, 39, 40, 41, 42, 43, 44, 45, 46, 47, 48, 49, 50, 51, 52, 53, 54, 55, 56, 57, 58, 59, 60, 61, 62, 63, 64, 65, 66, 67, 68, 69, 70, 71, 72, 8, 73, 74, 75, 76, 77, 78, 79, 80, 81, 82, 83, 84, 85, 86, 87, 88, 89, 90, 91, 92, 93, 94, 95, 96, 97, 98, 99, 100, 101, 102, 103, 104, 105, 106, 107, 108, 109, 110, 111, 112, 113, 114, 115, 116, 117, 118, 119, 142, 143, 144, 145, 146, 147, 148, 149, 150, 151, 152, 153, 154, 133, 134, 135, 136, 137, 138, 139, 140, 141] (by decide +kernel) (by decide +kernel)
set_option maxRecDepth 20000 in
theorem gX6_bestValue_X3_firstBest : GoodIn wsX6_bestValue (wsV RX6 199 RX3 yX3_firstBest wsX3_firstBest) := goodIn_app (goodIn_of _ (by decide +kernel)) ggX6_bestValue_X3_firstBest
theorem dX6_bestValue_0 : decode cX6_bestValue 0 = .ok (.aload_n 0, 1) := by decide +kernel
theorem dX6_bestValue_1 : decode cX6_bestValue 1 = .ok (.getfield 10, 3) := by decide +kernel
theorem dX6_bestValue_4 : decode cX6_bestValue 4 = .ok (.iload_n 1, 1) := by decide +kernel
theorem dX6_bestValue_5 : decode cX6_bestValue 5 = .ok (.invokevirtual 105, 3) := by decide +kernel
theorem dX6_bestValue_8 : decode cX6_bestValue 8 = .ok (.ifCond .ne 5, 3) := by decide +kernel
theorem dX6_bestValue_11 : decode cX6_bestValue 11 = .ok (.iconst (-1), 1) := by decide +kernel
theorem dX6_bestValue_12 : decode cX6_bestValue 12 = .ok (.ireturn, 1) := by decide +kernel
theorem dX6_bestValue_13 : decode cX6_bestValue 13 = .ok (.aload_n 0, 1) := by decide +kernel
theorem dX6_bestValue_14 : decode cX6_bestValue 14 = .ok (.getfield 49, 3) := by decide +kernel
theorem dX6_bestValue_17 : decode cX6_bestValue 17 = .ok (.invokevirtual 187, 3) := by decide +kernel
theorem dX6_bestValue_20 : decode cX6_bestValue 20 = .ok (.ifCond .ne 6, 3) := by decide +kernel
theorem dX6_bestValue_23 : decode cX6_bestValue 23 = .ok (.bipush (-3), 2) := by decide +kernel
theorem dX6_bestValue_25 : decode cX6_bestValue 25 = .ok (.ireturn, 1) := by decide +kernel
theorem dX6_bestValue_26 : decode cX6_bestValue 26 = .ok (.aload_n 0, 1) := by decide +kernel
theorem dX6_bestValue_27 : decode cX6_bestValue 27 = .ok (.getfield 49, 3) := by decide +kernel
theorem dX6_bestValue_30 : decode cX6_bestValue 30 = .ok (.invokevirtual 199, 3) := by decide +kernel
theorem dX6_bestValue_33 : decode cX6_bestValue 33 = .ok (.iload_n 1, 1) := by decide +kernel
theorem dX6_bestValue_34 : decode cX6_bestValue 34 = .ok (.ishr, 1) := by decide +kernel
theorem dX6_bestValue_35 : decode cX6_bestValue 35 = .ok (.iconst 1, 1) := by decide +kernel
theorem dX6_bestValue_36 : decode cX6_bestValue 36 = .ok (.iand, 1) := by decide +kernel
theorem dX6_bestValue_37 : decode cX6_bestValue 37 = .ok (.ireturn, 1) := by decide +kernel
set_option maxRecDepth 20000 in
theorem ggX6_core_X3_modelCount : GoodIn wsX6_core wsX3_modelCount := goodIn_r _ [6, 7, 8, 9, 10, 5, 11, 12, 13, 14, 15, 16, 17, 18, 19, 20, 21, 22, 23, 24, 25, 26, 27, 28, 29, 30, 31, 32, 33, 34, 35, 36, 37, 38, 39, 40, 41, 42, 43, 44, 45, 46, 47, 48, 49, 50, 51, 52, 53, 54, 55, 56, 57, 58, 59, 60, 61, 62, 63, 64, 65, 66, 67, 68, 69, 70, 71, 72, 73, 74, 75, 76, 77, 78, 79, 80, 81, 82, 83, 84, 85, 86, 87, 88, 89, 90, 91, 92, 93, 94, 95, 96, 97, 98, 99, 100, 101, 102, 103, 104, 105, 106, 107, 108, 109, 110, 111, 112, 113, 114, 138, 139, 140, 141, 142, 143, 144, 145, 146, 147, 148, 149, 150, 151, 152, 153, 154, 155, 156, 157, 158, 159] (by decide +kernel) (by decide +kernel)
set_option maxRecDepth 20000 in
theorem gX6_core_X3_modelCount : GoodIn wsX6_core (wsV RX6 187 RX3 yX3_modelCount wsX3_modelCount) := goodIn_app (goodIn_of _ (by decide +kernel)) ggX6_core_X3_modelCount
set_option maxRecDepth 20000 in
theorem ggX6_core_X3_coreThings : GoodIn wsX6_core wsX3_coreThings := goodIn_r _ [118, 119, 13, 120, 76, 19, 20, 21, 5, 22, 23, 24, 25, 26, 27, 28, 29, 30, 31, 32, 33, 34, 35, 36, 37, 38, 39, 40, 41, 42, 43, 44, 45, 46, 47, 48, 49, 50, 51, 52, 53, 54, 55, 56, 57, 58, 59, 60, 61, 62, 63, 64, 65, 66, 67, 68, 69, 70, 71, 72, 73, 74, 75, 18, 77, 78, 79, 80, 81, 82, 83, 84, 85, 86, 87, 88, 89, 90, 91, 92, 93, 94, 104, 105, 106, 107, 121, 122, 123, 124, 138, 139, 140, 141, 142, 143, 144, 145, 146, 147, 148, 149, 150, 151, 152, 153, 154, 155, 156, 157, 158, 159] (by decide +kernel) (by decide +kernel)
set_option maxRecDepth 20000 in
theorem gX6_core_X3_coreThings : GoodIn wsX6_core (wsV RX6 202 RX3 yX3_coreThings wsX3_coreThings) := goodIn_app (goodIn_of _ (by decide +kernel)) ggX6_core_X3_coreThings
set_option maxRecDepth 20000 in
theorem ggX6_core_X6_placeOfBit : GoodIn wsX6_core wsX6_placeOfBit := goodIn_r _ [128] (by decide +kernel) (by decide +kernel)
set_option maxRecDepth 20000 in
theorem gX6_core_X6_placeOfBit : GoodIn wsX6_core (va_wsS RX6 183 yX6_placeOfBit wsX6_placeOfBit) := goodIn_app (goodIn_of _ (by decide +kernel)) ggX6_core_X6_placeOfBit
theorem dX6_core_0 : decode cX6_core 0 = .ok (.aload_n 0, 1) := by decide +kernel
theorem dX6_core_1 : decode cX6_core 1 = .ok (.getfield 49, 3) := by decide +kernel
theorem dX6_core_4 : decode cX6_core 4 = .ok (.invokevirtual 187, 3) := by decide +kernel
theorem dX6_core_7 : decode cX6_core 7 = .ok (.ifCond .eq 6, 3) := by decide +kernel
theorem dX6_core_10 : decode cX6_core 10 = .ok (.bipush (-2), 2) := by decide +kernel
theorem dX6_core_12 : decode cX6_core 12 = .ok (.ireturn, 1) := by decide +kernel
theorem dX6_core_13 : decode cX6_core 13 = .ok (.aload_n 0, 1) := by decide +kernel
theorem dX6_core_14 : decode cX6_core 14 = .ok (.getfield 49, 3) := by decide +kernel
theorem dX6_core_17 : decode cX6_core 17 = .ok (.invokevirtual 202, 3) := by decide +kernel
theorem dX6_core_20 : decode cX6_core 20 = .ok (.iload_n 1, 1) := by decide +kernel
theorem dX6_core_21 : decode cX6_core 21 = .ok (.invokestatic 183, 3) := by decide +kernel
theorem dX6_core_24 : decode cX6_core 24 = .ok (.istore_n 2, 1) := by decide +kernel
theorem dX6_core_25 : decode cX6_core 25 = .ok (.iload_n 2, 1) := by decide +kernel
theorem dX6_core_26 : decode cX6_core 26 = .ok (.ifCond .ge 7, 3) := by decide +kernel
theorem dX6_core_29 : decode cX6_core 29 = .ok (.iconst (-1), 1) := by decide +kernel
theorem dX6_core_30 : decode cX6_core 30 = .ok (.goto 4, 3) := by decide +kernel
theorem dX6_core_33 : decode cX6_core 33 = .ok (.iload_n 2, 1) := by decide +kernel
theorem dX6_core_34 : decode cX6_core 34 = .ok (.ireturn, 1) := by decide +kernel
set_option maxRecDepth 20000 in
theorem ggX6_outdate_X2_removeAll : GoodIn wsX6_outdate wsX2_removeAll := goodIn_r _ [8, 9, 32, 33, 34] (by decide +kernel) (by decide +kernel)
set_option maxRecDepth 20000 in
theorem gX6_outdate_X2_removeAll : GoodIn wsX6_outdate (wsV RX6 206 RX2 yX2_removeAll wsX2_removeAll) := goodIn_app (goodIn_of _ (by decide +kernel)) ggX6_outdate_X2_removeAll
set_option maxRecDepth 20000 in
theorem ggX6_outdate_X4_outdate : GoodIn wsX6_outdate wsX4_outdate := goodIn_r _ [14, 15, 35, 36, 37, 38, 39, 40, 41, 42, 43] (by decide +kernel) (by decide +kernel)
set_option maxRecDepth 20000 in
theorem gX6_outdate_X4_outdate : GoodIn wsX6_outdate (wsV RX6 207 RX4 yX4_outdate wsX4_outdate) := goodIn_app (goodIn_of _ (by decide +kernel)) ggX6_outdate_X4_outdate
set_option maxRecDepth 20000 in
theorem ggX6_outdate_X3_outdate : GoodIn wsX6_outdate wsX3_outdate := goodIn_r _ [20, 21, 22, 44, 45, 46, 47, 48, 49, 50, 51, 52, 53, 54, 55, 56] (by decide +kernel) (by decide +kernel)
set_option maxRecDepth 20000 in
theorem gX6_outdate_X3_outdate : GoodIn wsX6_outdate (wsV RX6 208 RX3 yX3_outdate wsX3_outdate) := goodIn_app (goodIn_of _ (by decide +kernel)) ggX6_outdate_X3_outdate
theorem dX6_outdate_0 : decode cX6_outdate 0 = .ok (.aload_n 0, 1) := by decide +kernel
theorem dX6_outdate_1 : decode cX6_outdate 1 = .ok (.getfield 19, 3) := by decide +kernel
theorem dX6_outdate_4 : decode cX6_outdate 4 = .ok (.invokevirtual 206, 3) := by decide +kernel
theorem dX6_outdate_7 : decode cX6_outdate 7 = .ok (.aload_n 0, 1) := by decide +kernel
theorem dX6_outdate_8 : decode cX6_outdate 8 = .ok (.getfield 40, 3) := by decide +kernel
theorem dX6_outdate_11 : decode cX6_outdate 11 = .ok (.invokevirtual 207, 3) := by decide +kernel
theorem dX6_outdate_14 : decode cX6_outdate 14 = .ok (.aload_n 0, 1) := by decide +kernel
theorem dX6_outdate_15 : decode cX6_outdate 15 = .ok (.getfield 49, 3) := by decide +kernel
theorem dX6_outdate_18 : decode cX6_outdate 18 = .ok (.invokevirtual 208, 3) := by decide +kernel
theorem dX6_outdate_21 : decode cX6_outdate 21 = .ok (.return_, 1) := by decide +kernel
set_option maxRecDepth 20000 in
theorem ggX6_clashFromAssumed_X0_clashes : GoodIn wsX6_clashFromAssumed wsX0_clashes := goodIn_r _ [8, 9, 10, 11, 12, 13, 14, 7, 15, 16, 17, 18, 19, 20, 21, 22, 23, 24, 25, 26, 27, 28, 29, 30, 31, 32, 33, 34, 35, 36, 37, 38, 39, 40, 41, 42, 43, 44, 45, 46, 47, 48, 49, 50, 51, 52, 53, 54, 55, 56, 57, 58, 59, 60, 61, 62, 63, 64, 65, 66, 67, 68, 69, 70, 71, 72, 73, 74, 75, 76, 77, 78, 79, 80, 81, 82, 83, 84, 85, 86, 87, 88, 89, 90, 91, 92, 93, 94, 95, 96, 97, 98, 99, 100, 101, 102, 103, 104, 105, 106, 107, 108, 109, 110, 111, 112, 113, 114, 115, 116, 117, 118, 119, 120, 121, 131, 132, 133, 134, 135, 136, 137, 138, 139, 140, 141, 142, 143, 144, 145, 146, 147, 148, 149, 150, 151] (by decide +kernel) (by decide +kernel)
set_option maxRecDepth 20000 in
theorem gX6_clashFromAssumed_X0_clashes : GoodIn wsX6_clashFromAssumed (wsV RX6 155 RX0 yX0_clashes wsX0_clashes) := goodIn_app (goodIn_of _ (by decide +kernel)) ggX6_clashFromAssumed_X0_clashes
theorem dX6_clashFromAssumed_0 : decode cX6_clashFromAssumed 0 = .ok (.aload_n 0, 1) := by decide +kernel
theorem dX6_clashFromAssumed_1 : decode cX6_clashFromAssumed 1 = .ok (.getfield 31, 3) := by decide +kernel
theorem dX6_clashFromAssumed_4 : decode cX6_clashFromAssumed 4 = .ok (.aload_n 0, 1) := by decide +kernel
theorem dX6_clashFromAssumed_5 : decode cX6_clashFromAssumed 5 = .ok (.getfield 135, 3) := by decide +kernel
theorem dX6_clashFromAssumed_8 : decode cX6_clashFromAssumed 8 = .ok (.aload_n 0, 1) := by decide +kernel
theorem dX6_clashFromAssumed_9 : decode cX6_clashFromAssumed 9 = .ok (.getfield 138, 3) := by decide +kernel
theorem dX6_clashFromAssumed_12 : decode cX6_clashFromAssumed 12 = .ok (.iconst 0, 1) := by decide +kernel
theorem dX6_clashFromAssumed_13 : decode cX6_clashFromAssumed 13 = .ok (.invokevirtual 155, 3) := by decide +kernel
theorem dX6_clashFromAssumed_16 : decode cX6_clashFromAssumed 16 = .ok (.ireturn, 1) := by decide +kernel
theorem dX6_assumeNone_0 : decode cX6_assumeNone 0 = .ok (.aload_n 0, 1) := by decide +kernel
theorem dX6_assumeNone_1 : decode cX6_assumeNone 1 = .ok (.iconst 0, 1) := by decide +kernel
theorem dX6_assumeNone_2 : decode cX6_assumeNone 2 = .ok (.putfield 135, 3) := by decide +kernel
theorem dX6_assumeNone_5 : decode cX6_assumeNone 5 = .ok (.aload_n 0, 1) := by decide +kernel
theorem dX6_assumeNone_6 : decode cX6_assumeNone 6 = .ok (.iconst 0, 1) := by decide +kernel
theorem dX6_assumeNone_7 : decode cX6_assumeNone 7 = .ok (.putfield 138, 3) := by decide +kernel
theorem dX6_assumeNone_10 : decode cX6_assumeNone 10 = .ok (.return_, 1) := by decide +kernel
theorem dX6_emptyHand_0 : decode cX6_emptyHand 0 = .ok (.aload_n 0, 1) := by decide +kernel
theorem dX6_emptyHand_1 : decode cX6_emptyHand 1 = .ok (.iconst 0, 1) := by decide +kernel
theorem dX6_emptyHand_2 : decode cX6_emptyHand 2 = .ok (.putfield 67, 3) := by decide +kernel
theorem dX6_emptyHand_5 : decode cX6_emptyHand 5 = .ok (.aload_n 0, 1) := by decide +kernel
theorem dX6_emptyHand_6 : decode cX6_emptyHand 6 = .ok (.iconst 0, 1) := by decide +kernel
theorem dX6_emptyHand_7 : decode cX6_emptyHand 7 = .ok (.putfield 75, 3) := by decide +kernel
theorem dX6_emptyHand_10 : decode cX6_emptyHand 10 = .ok (.return_, 1) := by decide +kernel
set_option maxRecDepth 20000 in
theorem ggX6_isLiteral_X5_isName : GoodIn wsX6_isLiteral wsX5_isName := goodIn_r _ [6, 7, 17, 18, 19, 20, 21, 22, 23, 24, 25] (by decide +kernel) (by decide +kernel)
set_option maxRecDepth 20000 in
theorem gX6_isLiteral_X5_isName : GoodIn wsX6_isLiteral (wsV RX6 105 RX5 yX5_isName wsX5_isName) := goodIn_app (goodIn_of _ (by decide +kernel)) ggX6_isLiteral_X5_isName
theorem dX6_isLiteral_0 : decode cX6_isLiteral 0 = .ok (.iload_n 1, 1) := by decide +kernel
theorem dX6_isLiteral_1 : decode cX6_isLiteral 1 = .ok (.ifCond .lt 20, 3) := by decide +kernel
theorem dX6_isLiteral_4 : decode cX6_isLiteral 4 = .ok (.aload_n 0, 1) := by decide +kernel
theorem dX6_isLiteral_5 : decode cX6_isLiteral 5 = .ok (.getfield 10, 3) := by decide +kernel
theorem dX6_isLiteral_8 : decode cX6_isLiteral 8 = .ok (.iload_n 1, 1) := by decide +kernel
theorem dX6_isLiteral_9 : decode cX6_isLiteral 9 = .ok (.iconst 1, 1) := by decide +kernel
theorem dX6_isLiteral_10 : decode cX6_isLiteral 10 = .ok (.ishr, 1) := by decide +kernel
theorem dX6_isLiteral_11 : decode cX6_isLiteral 11 = .ok (.invokevirtual 105, 3) := by decide +kernel
theorem dX6_isLiteral_14 : decode cX6_isLiteral 14 = .ok (.ifCond .eq 7, 3) := by decide +kernel
theorem dX6_isLiteral_17 : decode cX6_isLiteral 17 = .ok (.iconst 1, 1) := by decide +kernel
theorem dX6_isLiteral_18 : decode cX6_isLiteral 18 = .ok (.goto 4, 3) := by decide +kernel
theorem dX6_isLiteral_21 : decode cX6_isLiteral 21 = .ok (.iconst 0, 1) := by decide +kernel
