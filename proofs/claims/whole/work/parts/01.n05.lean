theorem dX6_isLiteral_22 : decode cX6_isLiteral 22 = .ok (.ireturn, 1) := by decide +kernel
theorem dX6_nameWantedTrue_0 : decode cX6_nameWantedTrue 0 = .ok (.iload_n 0, 1) := by decide +kernel
theorem dX6_nameWantedTrue_1 : decode cX6_nameWantedTrue 1 = .ok (.iconst 1, 1) := by decide +kernel
theorem dX6_nameWantedTrue_2 : decode cX6_nameWantedTrue 2 = .ok (.iand, 1) := by decide +kernel
theorem dX6_nameWantedTrue_3 : decode cX6_nameWantedTrue 3 = .ok (.ifCond .ne 11, 3) := by decide +kernel
theorem dX6_nameWantedTrue_6 : decode cX6_nameWantedTrue 6 = .ok (.iconst 1, 1) := by decide +kernel
theorem dX6_nameWantedTrue_7 : decode cX6_nameWantedTrue 7 = .ok (.iload_n 0, 1) := by decide +kernel
theorem dX6_nameWantedTrue_8 : decode cX6_nameWantedTrue 8 = .ok (.iconst 1, 1) := by decide +kernel
theorem dX6_nameWantedTrue_9 : decode cX6_nameWantedTrue 9 = .ok (.ishr, 1) := by decide +kernel
theorem dX6_nameWantedTrue_10 : decode cX6_nameWantedTrue 10 = .ok (.ishl, 1) := by decide +kernel
theorem dX6_nameWantedTrue_11 : decode cX6_nameWantedTrue 11 = .ok (.goto 4, 3) := by decide +kernel
theorem dX6_nameWantedTrue_14 : decode cX6_nameWantedTrue 14 = .ok (.iconst 0, 1) := by decide +kernel
theorem dX6_nameWantedTrue_15 : decode cX6_nameWantedTrue 15 = .ok (.ireturn, 1) := by decide +kernel
theorem dX6_nameWantedFalse_0 : decode cX6_nameWantedFalse 0 = .ok (.iload_n 0, 1) := by decide +kernel
theorem dX6_nameWantedFalse_1 : decode cX6_nameWantedFalse 1 = .ok (.iconst 1, 1) := by decide +kernel
theorem dX6_nameWantedFalse_2 : decode cX6_nameWantedFalse 2 = .ok (.iand, 1) := by decide +kernel
theorem dX6_nameWantedFalse_3 : decode cX6_nameWantedFalse 3 = .ok (.iconst 1, 1) := by decide +kernel
theorem dX6_nameWantedFalse_4 : decode cX6_nameWantedFalse 4 = .ok (.if_icmp .ne 11, 3) := by decide +kernel
theorem dX6_nameWantedFalse_7 : decode cX6_nameWantedFalse 7 = .ok (.iconst 1, 1) := by decide +kernel
theorem dX6_nameWantedFalse_8 : decode cX6_nameWantedFalse 8 = .ok (.iload_n 0, 1) := by decide +kernel
theorem dX6_nameWantedFalse_9 : decode cX6_nameWantedFalse 9 = .ok (.iconst 1, 1) := by decide +kernel
theorem dX6_nameWantedFalse_10 : decode cX6_nameWantedFalse 10 = .ok (.ishr, 1) := by decide +kernel
theorem dX6_nameWantedFalse_11 : decode cX6_nameWantedFalse 11 = .ok (.ishl, 1) := by decide +kernel
theorem dX6_nameWantedFalse_12 : decode cX6_nameWantedFalse 12 = .ok (.goto 4, 3) := by decide +kernel
theorem dX6_nameWantedFalse_15 : decode cX6_nameWantedFalse 15 = .ok (.iconst 0, 1) := by decide +kernel
theorem dX6_nameWantedFalse_16 : decode cX6_nameWantedFalse 16 = .ok (.ireturn, 1) := by decide +kernel
set_option maxRecDepth 20000 in
theorem ggX6_literalsIn_J6_bitCount_0f7a4 : GoodIn wsX6_literalsIn wsJ6_bitCount_0f7a4 := goodIn_r _ [4, 5, 6, 7] (by decide +kernel) (by decide +kernel)
set_option maxRecDepth 20000 in
theorem gX6_literalsIn_J6_bitCount_0f7a4 : GoodIn wsX6_literalsIn (va_wsS RX6 209 yJ6_bitCount_0f7a4 wsJ6_bitCount_0f7a4) := goodIn_app (goodIn_of _ (by decide +kernel)) ggX6_literalsIn_J6_bitCount_0f7a4
theorem dX6_literalsIn_0 : decode cX6_literalsIn 0 = .ok (.iload_n 0, 1) := by decide +kernel
theorem dX6_literalsIn_1 : decode cX6_literalsIn 1 = .ok (.invokestatic 209, 3) := by decide +kernel
theorem dX6_literalsIn_4 : decode cX6_literalsIn 4 = .ok (.iload_n 1, 1) := by decide +kernel
theorem dX6_literalsIn_5 : decode cX6_literalsIn 5 = .ok (.invokestatic 209, 3) := by decide +kernel
theorem dX6_literalsIn_8 : decode cX6_literalsIn 8 = .ok (.iadd, 1) := by decide +kernel
theorem dX6_literalsIn_9 : decode cX6_literalsIn 9 = .ok (.ireturn, 1) := by decide +kernel
theorem dX6_isOutside_0 : decode cX6_isOutside 0 = .ok (.iload_n 0, 1) := by decide +kernel
theorem dX6_isOutside_1 : decode cX6_isOutside 1 = .ok (.iload_n 1, 1) := by decide +kernel
theorem dX6_isOutside_2 : decode cX6_isOutside 2 = .ok (.ineg, 1) := by decide +kernel
theorem dX6_isOutside_3 : decode cX6_isOutside 3 = .ok (.if_icmp .lt 8, 3) := by decide +kernel
theorem dX6_isOutside_6 : decode cX6_isOutside 6 = .ok (.iload_n 0, 1) := by decide +kernel
theorem dX6_isOutside_7 : decode cX6_isOutside 7 = .ok (.iload_n 1, 1) := by decide +kernel
theorem dX6_isOutside_8 : decode cX6_isOutside 8 = .ok (.if_icmp .le 7, 3) := by decide +kernel
theorem dX6_isOutside_11 : decode cX6_isOutside 11 = .ok (.iconst 1, 1) := by decide +kernel
theorem dX6_isOutside_12 : decode cX6_isOutside 12 = .ok (.goto 4, 3) := by decide +kernel
theorem dX6_isOutside_15 : decode cX6_isOutside 15 = .ok (.iconst 0, 1) := by decide +kernel
theorem dX6_isOutside_16 : decode cX6_isOutside 16 = .ok (.ireturn, 1) := by decide +kernel
theorem dX6_truthOf_0 : decode cX6_truthOf 0 = .ok (.iload_n 1, 1) := by decide +kernel
theorem dX6_truthOf_1 : decode cX6_truthOf 1 = .ok (.iload_n 0, 1) := by decide +kernel
theorem dX6_truthOf_2 : decode cX6_truthOf 2 = .ok (.ishr, 1) := by decide +kernel
theorem dX6_truthOf_3 : decode cX6_truthOf 3 = .ok (.iconst 1, 1) := by decide +kernel
theorem dX6_truthOf_4 : decode cX6_truthOf 4 = .ok (.iand, 1) := by decide +kernel
theorem dX6_truthOf_5 : decode cX6_truthOf 5 = .ok (.iconst 1, 1) := by decide +kernel
theorem dX6_truthOf_6 : decode cX6_truthOf 6 = .ok (.if_icmp .ne 5, 3) := by decide +kernel
theorem dX6_truthOf_9 : decode cX6_truthOf 9 = .ok (.iconst 1, 1) := by decide +kernel
theorem dX6_truthOf_10 : decode cX6_truthOf 10 = .ok (.ireturn, 1) := by decide +kernel
theorem dX6_truthOf_11 : decode cX6_truthOf 11 = .ok (.iload_n 2, 1) := by decide +kernel
theorem dX6_truthOf_12 : decode cX6_truthOf 12 = .ok (.iload_n 0, 1) := by decide +kernel
theorem dX6_truthOf_13 : decode cX6_truthOf 13 = .ok (.ishr, 1) := by decide +kernel
theorem dX6_truthOf_14 : decode cX6_truthOf 14 = .ok (.iconst 1, 1) := by decide +kernel
theorem dX6_truthOf_15 : decode cX6_truthOf 15 = .ok (.iand, 1) := by decide +kernel
theorem dX6_truthOf_16 : decode cX6_truthOf 16 = .ok (.iconst 1, 1) := by decide +kernel
theorem dX6_truthOf_17 : decode cX6_truthOf 17 = .ok (.if_icmp .ne 7, 3) := by decide +kernel
theorem dX6_truthOf_20 : decode cX6_truthOf 20 = .ok (.iconst 0, 1) := by decide +kernel
theorem dX6_truthOf_21 : decode cX6_truthOf 21 = .ok (.goto 4, 3) := by decide +kernel
theorem dX6_truthOf_24 : decode cX6_truthOf 24 = .ok (.iconst 2, 1) := by decide +kernel
theorem dX6_truthOf_25 : decode cX6_truthOf 25 = .ok (.ireturn, 1) := by decide +kernel
theorem dX6_placeOfBit_0 : decode cX6_placeOfBit 0 = .ok (.iconst 0, 1) := by decide +kernel
theorem dX6_placeOfBit_1 : decode cX6_placeOfBit 1 = .ok (.istore_n 3, 1) := by decide +kernel
theorem dX6_placeOfBit_2 : decode cX6_placeOfBit 2 = .ok (.iconst 0, 1) := by decide +kernel
theorem dX6_placeOfBit_3 : decode cX6_placeOfBit 3 = .ok (.istore 4, 2) := by decide +kernel
theorem dX6_placeOfBit_5 : decode cX6_placeOfBit 5 = .ok (.iload 4, 2) := by decide +kernel
theorem dX6_placeOfBit_7 : decode cX6_placeOfBit 7 = .ok (.bipush 60, 2) := by decide +kernel
theorem dX6_placeOfBit_9 : decode cX6_placeOfBit 9 = .ok (.if_icmp .ge 31, 3) := by decide +kernel
theorem dX6_placeOfBit_12 : decode cX6_placeOfBit 12 = .ok (.lload_n 0, 1) := by decide +kernel
theorem dX6_placeOfBit_13 : decode cX6_placeOfBit 13 = .ok (.iload 4, 2) := by decide +kernel
theorem dX6_placeOfBit_15 : decode cX6_placeOfBit 15 = .ok (.lshr, 1) := by decide +kernel
theorem dX6_placeOfBit_16 : decode cX6_placeOfBit 16 = .ok (.lconst 1, 1) := by decide +kernel
theorem dX6_placeOfBit_17 : decode cX6_placeOfBit 17 = .ok (.land, 1) := by decide +kernel
theorem dX6_placeOfBit_18 : decode cX6_placeOfBit 18 = .ok (.lconst 1, 1) := by decide +kernel
theorem dX6_placeOfBit_19 : decode cX6_placeOfBit 19 = .ok (.lcmp, 1) := by decide +kernel
theorem dX6_placeOfBit_20 : decode cX6_placeOfBit 20 = .ok (.ifCond .ne 14, 3) := by decide +kernel
theorem dX6_placeOfBit_23 : decode cX6_placeOfBit 23 = .ok (.iload_n 3, 1) := by decide +kernel
theorem dX6_placeOfBit_24 : decode cX6_placeOfBit 24 = .ok (.iload_n 2, 1) := by decide +kernel
theorem dX6_placeOfBit_25 : decode cX6_placeOfBit 25 = .ok (.if_icmp .ne 6, 3) := by decide +kernel
theorem dX6_placeOfBit_28 : decode cX6_placeOfBit 28 = .ok (.iload 4, 2) := by decide +kernel
theorem dX6_placeOfBit_30 : decode cX6_placeOfBit 30 = .ok (.ireturn, 1) := by decide +kernel
theorem dX6_placeOfBit_31 : decode cX6_placeOfBit 31 = .ok (.iinc 3 1, 3) := by decide +kernel
theorem dX6_placeOfBit_34 : decode cX6_placeOfBit 34 = .ok (.iinc 4 1, 3) := by decide +kernel
theorem dX6_placeOfBit_37 : decode cX6_placeOfBit 37 = .ok (.goto (-32), 3) := by decide +kernel
theorem dX6_placeOfBit_40 : decode cX6_placeOfBit 40 = .ok (.iconst (-1), 1) := by decide +kernel
theorem dX6_placeOfBit_41 : decode cX6_placeOfBit 41 = .ok (.ireturn, 1) := by decide +kernel
theorem dX7_init_0 : decode cX7_init 0 = .ok (.aload_n 0, 1) := by decide +kernel
theorem dX7_init_1 : decode cX7_init 1 = .ok (.invokespecial 1, 3) := by decide +kernel
theorem dX7_init_4 : decode cX7_init 4 = .ok (.aload_n 0, 1) := by decide +kernel
theorem dX7_init_5 : decode cX7_init 5 = .ok (.bipush 60, 2) := by decide +kernel
theorem dX7_init_7 : decode cX7_init 7 = .ok (.newarray .boolean, 2) := by decide +kernel
theorem dX7_init_9 : decode cX7_init 9 = .ok (.putfield 7, 3) := by decide +kernel
theorem dX7_init_12 : decode cX7_init 12 = .ok (.aload_n 0, 1) := by decide +kernel
theorem dX7_init_13 : decode cX7_init 13 = .ok (.bipush 60, 2) := by decide +kernel
theorem dX7_init_15 : decode cX7_init 15 = .ok (.newarray .boolean, 2) := by decide +kernel
theorem dX7_init_17 : decode cX7_init 17 = .ok (.putfield 13, 3) := by decide +kernel
theorem dX7_init_20 : decode cX7_init 20 = .ok (.aload_n 0, 1) := by decide +kernel
theorem dX7_init_21 : decode cX7_init 21 = .ok (.bipush 60, 2) := by decide +kernel
theorem dX7_init_23 : decode cX7_init 23 = .ok (.newarray .int, 2) := by decide +kernel
theorem dX7_init_25 : decode cX7_init 25 = .ok (.putfield 16, 3) := by decide +kernel
theorem dX7_init_28 : decode cX7_init 28 = .ok (.aload_n 0, 1) := by decide +kernel
theorem dX7_init_29 : decode cX7_init 29 = .ok (.bipush 60, 2) := by decide +kernel
theorem dX7_init_31 : decode cX7_init 31 = .ok (.newarray .int, 2) := by decide +kernel
theorem dX7_init_33 : decode cX7_init 33 = .ok (.putfield 20, 3) := by decide +kernel
theorem dX7_init_36 : decode cX7_init 36 = .ok (.aload_n 0, 1) := by decide +kernel
theorem dX7_init_37 : decode cX7_init 37 = .ok (.bipush 60, 2) := by decide +kernel
theorem dX7_init_39 : decode cX7_init 39 = .ok (.newarray .int, 2) := by decide +kernel
theorem dX7_init_41 : decode cX7_init 41 = .ok (.putfield 23, 3) := by decide +kernel
theorem dX7_init_44 : decode cX7_init 44 = .ok (.aload_n 0, 1) := by decide +kernel
theorem dX7_init_45 : decode cX7_init 45 = .ok (.sipush 840, 3) := by decide +kernel
theorem dX7_init_48 : decode cX7_init 48 = .ok (.newarray .int, 2) := by decide +kernel
theorem dX7_init_50 : decode cX7_init 50 = .ok (.putfield 26, 3) := by decide +kernel
theorem dX7_init_53 : decode cX7_init 53 = .ok (.aload_n 0, 1) := by decide +kernel
theorem dX7_init_54 : decode cX7_init 54 = .ok (.bipush 14, 2) := by decide +kernel
theorem dX7_init_56 : decode cX7_init 56 = .ok (.newarray .int, 2) := by decide +kernel
theorem dX7_init_58 : decode cX7_init 58 = .ok (.putfield 29, 3) := by decide +kernel
theorem dX7_init_61 : decode cX7_init 61 = .ok (.aload_n 0, 1) := by decide +kernel
theorem dX7_init_62 : decode cX7_init 62 = .ok (.bipush 40, 2) := by decide +kernel
theorem dX7_init_64 : decode cX7_init 64 = .ok (.newarray .int, 2) := by decide +kernel
theorem dX7_init_66 : decode cX7_init 66 = .ok (.putfield 32, 3) := by decide +kernel
theorem dX7_init_69 : decode cX7_init 69 = .ok (.aload_n 0, 1) := by decide +kernel
theorem dX7_init_70 : decode cX7_init 70 = .ok (.bipush 40, 2) := by decide +kernel
theorem dX7_init_72 : decode cX7_init 72 = .ok (.newarray .int, 2) := by decide +kernel
theorem dX7_init_74 : decode cX7_init 74 = .ok (.putfield 35, 3) := by decide +kernel
theorem dX7_init_77 : decode cX7_init 77 = .ok (.aload_n 0, 1) := by decide +kernel
theorem dX7_init_78 : decode cX7_init 78 = .ok (.bipush 15, 2) := by decide +kernel
theorem dX7_init_80 : decode cX7_init 80 = .ok (.newarray .int, 2) := by decide +kernel
theorem dX7_init_82 : decode cX7_init 82 = .ok (.putfield 38, 3) := by decide +kernel
theorem dX7_init_85 : decode cX7_init 85 = .ok (.aload_n 0, 1) := by decide +kernel
theorem dX7_init_86 : decode cX7_init 86 = .ok (.sipush 20000, 3) := by decide +kernel
theorem dX7_init_89 : decode cX7_init 89 = .ok (.newarray .int, 2) := by decide +kernel
theorem dX7_init_91 : decode cX7_init 91 = .ok (.putfield 41, 3) := by decide +kernel
theorem dX7_init_94 : decode cX7_init 94 = .ok (.aload_n 0, 1) := by decide +kernel
theorem dX7_init_95 : decode cX7_init 95 = .ok (.sipush 16384, 3) := by decide +kernel
theorem dX7_init_98 : decode cX7_init 98 = .ok (.newarray .long, 2) := by decide +kernel
theorem dX7_init_100 : decode cX7_init 100 = .ok (.putfield 44, 3) := by decide +kernel
theorem dX7_init_103 : decode cX7_init 103 = .ok (.return_, 1) := by decide +kernel
theorem dX7_bits_0 : decode cX7_bits 0 = .ok (.iconst 0, 1) := by decide +kernel
theorem dX7_bits_1 : decode cX7_bits 1 = .ok (.istore_n 1, 1) := by decide +kernel
theorem dX7_bits_2 : decode cX7_bits 2 = .ok (.iconst 0, 1) := by decide +kernel
theorem dX7_bits_3 : decode cX7_bits 3 = .ok (.istore_n 2, 1) := by decide +kernel
theorem dX7_bits_4 : decode cX7_bits 4 = .ok (.iload_n 2, 1) := by decide +kernel
theorem dX7_bits_5 : decode cX7_bits 5 = .ok (.bipush 14, 2) := by decide +kernel
theorem dX7_bits_7 : decode cX7_bits 7 = .ok (.if_icmp .ge 17, 3) := by decide +kernel
theorem dX7_bits_10 : decode cX7_bits 10 = .ok (.iload_n 1, 1) := by decide +kernel
theorem dX7_bits_11 : decode cX7_bits 11 = .ok (.iload_n 0, 1) := by decide +kernel
theorem dX7_bits_12 : decode cX7_bits 12 = .ok (.iload_n 2, 1) := by decide +kernel
theorem dX7_bits_13 : decode cX7_bits 13 = .ok (.ishr, 1) := by decide +kernel
theorem dX7_bits_14 : decode cX7_bits 14 = .ok (.iconst 1, 1) := by decide +kernel
theorem dX7_bits_15 : decode cX7_bits 15 = .ok (.iand, 1) := by decide +kernel
theorem dX7_bits_16 : decode cX7_bits 16 = .ok (.iadd, 1) := by decide +kernel
theorem dX7_bits_17 : decode cX7_bits 17 = .ok (.istore_n 1, 1) := by decide +kernel
theorem dX7_bits_18 : decode cX7_bits 18 = .ok (.iinc 2 1, 3) := by decide +kernel
theorem dX7_bits_21 : decode cX7_bits 21 = .ok (.goto (-17), 3) := by decide +kernel
theorem dX7_bits_24 : decode cX7_bits 24 = .ok (.iload_n 1, 1) := by decide +kernel
theorem dX7_bits_25 : decode cX7_bits 25 = .ok (.ireturn, 1) := by decide +kernel
set_option maxRecDepth 20000 in
theorem ggX7_byClause_X7_bits : GoodIn wsX7_byClause wsX7_bits := goodIn_r _ [7] (by decide +kernel) (by decide +kernel)
set_option maxRecDepth 20000 in
theorem gX7_byClause_X7_bits : GoodIn wsX7_byClause (va_wsS RX7 55 yX7_bits wsX7_bits) := goodIn_app (goodIn_of _ (by decide +kernel)) ggX7_byClause_X7_bits
theorem dX7_byClause_0 : decode cX7_byClause 0 = .ok (.iload_n 1, 1) := by decide +kernel
theorem dX7_byClause_1 : decode cX7_byClause 1 = .ok (.aload_n 0, 1) := by decide +kernel
theorem dX7_byClause_2 : decode cX7_byClause 2 = .ok (.getfield 48, 3) := by decide +kernel
theorem dX7_byClause_5 : decode cX7_byClause 5 = .ok (.iconst (-1), 1) := by decide +kernel
theorem dX7_byClause_6 : decode cX7_byClause 6 = .ok (.ixor, 1) := by decide +kernel
theorem dX7_byClause_7 : decode cX7_byClause 7 = .ok (.iand, 1) := by decide +kernel
theorem dX7_byClause_8 : decode cX7_byClause 8 = .ok (.aload_n 0, 1) := by decide +kernel
theorem dX7_byClause_9 : decode cX7_byClause 9 = .ok (.getfield 52, 3) := by decide +kernel
theorem dX7_byClause_12 : decode cX7_byClause 12 = .ok (.iconst (-1), 1) := by decide +kernel
theorem dX7_byClause_13 : decode cX7_byClause 13 = .ok (.ixor, 1) := by decide +kernel
theorem dX7_byClause_14 : decode cX7_byClause 14 = .ok (.iand, 1) := by decide +kernel
theorem dX7_byClause_15 : decode cX7_byClause 15 = .ok (.istore_n 3, 1) := by decide +kernel
theorem dX7_byClause_16 : decode cX7_byClause 16 = .ok (.iload_n 2, 1) := by decide +kernel
theorem dX7_byClause_17 : decode cX7_byClause 17 = .ok (.aload_n 0, 1) := by decide +kernel
theorem dX7_byClause_18 : decode cX7_byClause 18 = .ok (.getfield 48, 3) := by decide +kernel
theorem dX7_byClause_21 : decode cX7_byClause 21 = .ok (.iconst (-1), 1) := by decide +kernel
theorem dX7_byClause_22 : decode cX7_byClause 22 = .ok (.ixor, 1) := by decide +kernel
theorem dX7_byClause_23 : decode cX7_byClause 23 = .ok (.iand, 1) := by decide +kernel
theorem dX7_byClause_24 : decode cX7_byClause 24 = .ok (.aload_n 0, 1) := by decide +kernel
theorem dX7_byClause_25 : decode cX7_byClause 25 = .ok (.getfield 52, 3) := by decide +kernel
theorem dX7_byClause_28 : decode cX7_byClause 28 = .ok (.iconst (-1), 1) := by decide +kernel
theorem dX7_byClause_29 : decode cX7_byClause 29 = .ok (.ixor, 1) := by decide +kernel
theorem dX7_byClause_30 : decode cX7_byClause 30 = .ok (.iand, 1) := by decide +kernel
theorem dX7_byClause_31 : decode cX7_byClause 31 = .ok (.istore 4, 2) := by decide +kernel
theorem dX7_byClause_33 : decode cX7_byClause 33 = .ok (.iload_n 1, 1) := by decide +kernel
theorem dX7_byClause_34 : decode cX7_byClause 34 = .ok (.aload_n 0, 1) := by decide +kernel
theorem dX7_byClause_35 : decode cX7_byClause 35 = .ok (.getfield 48, 3) := by decide +kernel
theorem dX7_byClause_38 : decode cX7_byClause 38 = .ok (.iand, 1) := by decide +kernel
theorem dX7_byClause_39 : decode cX7_byClause 39 = .ok (.ifCond .ne 12, 3) := by decide +kernel
theorem dX7_byClause_42 : decode cX7_byClause 42 = .ok (.iload_n 2, 1) := by decide +kernel
theorem dX7_byClause_43 : decode cX7_byClause 43 = .ok (.aload_n 0, 1) := by decide +kernel
theorem dX7_byClause_44 : decode cX7_byClause 44 = .ok (.getfield 52, 3) := by decide +kernel
theorem dX7_byClause_47 : decode cX7_byClause 47 = .ok (.iand, 1) := by decide +kernel
theorem dX7_byClause_48 : decode cX7_byClause 48 = .ok (.ifCond .eq 5, 3) := by decide +kernel
theorem dX7_byClause_51 : decode cX7_byClause 51 = .ok (.iconst 0, 1) := by decide +kernel
theorem dX7_byClause_52 : decode cX7_byClause 52 = .ok (.ireturn, 1) := by decide +kernel
theorem dX7_byClause_53 : decode cX7_byClause 53 = .ok (.iload_n 3, 1) := by decide +kernel
theorem dX7_byClause_54 : decode cX7_byClause 54 = .ok (.invokestatic 55, 3) := by decide +kernel
theorem dX7_byClause_57 : decode cX7_byClause 57 = .ok (.iload 4, 2) := by decide +kernel
theorem dX7_byClause_59 : decode cX7_byClause 59 = .ok (.invokestatic 55, 3) := by decide +kernel
theorem dX7_byClause_62 : decode cX7_byClause 62 = .ok (.iadd, 1) := by decide +kernel
theorem dX7_byClause_63 : decode cX7_byClause 63 = .ok (.istore 5, 2) := by decide +kernel
theorem dX7_byClause_65 : decode cX7_byClause 65 = .ok (.iload 5, 2) := by decide +kernel
theorem dX7_byClause_67 : decode cX7_byClause 67 = .ok (.ifCond .ne 10, 3) := by decide +kernel
theorem dX7_byClause_70 : decode cX7_byClause 70 = .ok (.aload_n 0, 1) := by decide +kernel
theorem dX7_byClause_71 : decode cX7_byClause 71 = .ok (.iconst 1, 1) := by decide +kernel
theorem dX7_byClause_72 : decode cX7_byClause 72 = .ok (.putfield 59, 3) := by decide +kernel
theorem dX7_byClause_75 : decode cX7_byClause 75 = .ok (.iconst 0, 1) := by decide +kernel
theorem dX7_byClause_76 : decode cX7_byClause 76 = .ok (.ireturn, 1) := by decide +kernel
theorem dX7_byClause_77 : decode cX7_byClause 77 = .ok (.iload 5, 2) := by decide +kernel
theorem dX7_byClause_79 : decode cX7_byClause 79 = .ok (.iconst 1, 1) := by decide +kernel
theorem dX7_byClause_80 : decode cX7_byClause 80 = .ok (.if_icmp .le 5, 3) := by decide +kernel
theorem dX7_byClause_83 : decode cX7_byClause 83 = .ok (.iconst 0, 1) := by decide +kernel
theorem dX7_byClause_84 : decode cX7_byClause 84 = .ok (.ireturn, 1) := by decide +kernel
theorem dX7_byClause_85 : decode cX7_byClause 85 = .ok (.aload_n 0, 1) := by decide +kernel
theorem dX7_byClause_86 : decode cX7_byClause 86 = .ok (.dup, 1) := by decide +kernel
theorem dX7_byClause_87 : decode cX7_byClause 87 = .ok (.getfield 48, 3) := by decide +kernel
theorem dX7_byClause_90 : decode cX7_byClause 90 = .ok (.iload_n 3, 1) := by decide +kernel
theorem dX7_byClause_91 : decode cX7_byClause 91 = .ok (.ior, 1) := by decide +kernel
theorem dX7_byClause_92 : decode cX7_byClause 92 = .ok (.putfield 48, 3) := by decide +kernel
theorem dX7_byClause_95 : decode cX7_byClause 95 = .ok (.aload_n 0, 1) := by decide +kernel
theorem dX7_byClause_96 : decode cX7_byClause 96 = .ok (.dup, 1) := by decide +kernel
theorem dX7_byClause_97 : decode cX7_byClause 97 = .ok (.getfield 52, 3) := by decide +kernel
theorem dX7_byClause_100 : decode cX7_byClause 100 = .ok (.iload 4, 2) := by decide +kernel
theorem dX7_byClause_102 : decode cX7_byClause 102 = .ok (.ior, 1) := by decide +kernel
theorem dX7_byClause_103 : decode cX7_byClause 103 = .ok (.putfield 52, 3) := by decide +kernel
theorem dX7_byClause_106 : decode cX7_byClause 106 = .ok (.iconst 1, 1) := by decide +kernel
theorem dX7_byClause_107 : decode cX7_byClause 107 = .ok (.ireturn, 1) := by decide +kernel
theorem dX7_byRow_0 : decode cX7_byRow 0 = .ok (.iconst 0, 1) := by decide +kernel
theorem dX7_byRow_1 : decode cX7_byRow 1 = .ok (.istore_n 2, 1) := by decide +kernel
theorem dX7_byRow_2 : decode cX7_byRow 2 = .ok (.iconst 0, 1) := by decide +kernel
theorem dX7_byRow_3 : decode cX7_byRow 3 = .ok (.istore_n 3, 1) := by decide +kernel
theorem dX7_byRow_4 : decode cX7_byRow 4 = .ok (.iload_n 3, 1) := by decide +kernel
theorem dX7_byRow_5 : decode cX7_byRow 5 = .ok (.aload_n 0, 1) := by decide +kernel
theorem dX7_byRow_6 : decode cX7_byRow 6 = .ok (.getfield 63, 3) := by decide +kernel
theorem dX7_byRow_9 : decode cX7_byRow 9 = .ok (.if_icmp .ge 76, 3) := by decide +kernel
theorem dX7_byRow_12 : decode cX7_byRow 12 = .ok (.aload_n 0, 1) := by decide +kernel
theorem dX7_byRow_13 : decode cX7_byRow 13 = .ok (.getfield 26, 3) := by decide +kernel
theorem dX7_byRow_16 : decode cX7_byRow 16 = .ok (.bipush 14, 2) := by decide +kernel
theorem dX7_byRow_18 : decode cX7_byRow 18 = .ok (.iload_n 1, 1) := by decide +kernel
theorem dX7_byRow_19 : decode cX7_byRow 19 = .ok (.imul, 1) := by decide +kernel
theorem dX7_byRow_20 : decode cX7_byRow 20 = .ok (.iload_n 3, 1) := by decide +kernel
theorem dX7_byRow_21 : decode cX7_byRow 21 = .ok (.iadd, 1) := by decide +kernel
theorem dX7_byRow_22 : decode cX7_byRow 22 = .ok (.iaload, 1) := by decide +kernel
theorem dX7_byRow_23 : decode cX7_byRow 23 = .ok (.istore 4, 2) := by decide +kernel
theorem dX7_byRow_25 : decode cX7_byRow 25 = .ok (.aload_n 0, 1) := by decide +kernel
theorem dX7_byRow_26 : decode cX7_byRow 26 = .ok (.getfield 48, 3) := by decide +kernel
theorem dX7_byRow_29 : decode cX7_byRow 29 = .ok (.aload_n 0, 1) := by decide +kernel
theorem dX7_byRow_30 : decode cX7_byRow 30 = .ok (.getfield 52, 3) := by decide +kernel
theorem dX7_byRow_33 : decode cX7_byRow 33 = .ok (.ior, 1) := by decide +kernel
theorem dX7_byRow_34 : decode cX7_byRow 34 = .ok (.iload_n 3, 1) := by decide +kernel
theorem dX7_byRow_35 : decode cX7_byRow 35 = .ok (.ishr, 1) := by decide +kernel
theorem dX7_byRow_36 : decode cX7_byRow 36 = .ok (.iconst 1, 1) := by decide +kernel
theorem dX7_byRow_37 : decode cX7_byRow 37 = .ok (.iand, 1) := by decide +kernel
theorem dX7_byRow_38 : decode cX7_byRow 38 = .ok (.ifCond .ne 7, 3) := by decide +kernel
theorem dX7_byRow_41 : decode cX7_byRow 41 = .ok (.iconst 1, 1) := by decide +kernel
theorem dX7_byRow_42 : decode cX7_byRow 42 = .ok (.goto 4, 3) := by decide +kernel
theorem dX7_byRow_45 : decode cX7_byRow 45 = .ok (.iconst 0, 1) := by decide +kernel
theorem dX7_byRow_46 : decode cX7_byRow 46 = .ok (.istore 5, 2) := by decide +kernel
theorem dX7_byRow_48 : decode cX7_byRow 48 = .ok (.iload_n 2, 1) := by decide +kernel
theorem dX7_byRow_49 : decode cX7_byRow 49 = .ok (.aload_n 0, 1) := by decide +kernel
theorem dX7_byRow_50 : decode cX7_byRow 50 = .ok (.getfield 48, 3) := by decide +kernel
theorem dX7_byRow_53 : decode cX7_byRow 53 = .ok (.iload_n 3, 1) := by decide +kernel
theorem dX7_byRow_54 : decode cX7_byRow 54 = .ok (.ishr, 1) := by decide +kernel
theorem dX7_byRow_55 : decode cX7_byRow 55 = .ok (.iconst 1, 1) := by decide +kernel
theorem dX7_byRow_56 : decode cX7_byRow 56 = .ok (.iand, 1) := by decide +kernel
theorem dX7_byRow_57 : decode cX7_byRow 57 = .ok (.iconst 1, 1) := by decide +kernel
theorem dX7_byRow_58 : decode cX7_byRow 58 = .ok (.if_icmp .eq 13, 3) := by decide +kernel
theorem dX7_byRow_61 : decode cX7_byRow 61 = .ok (.iload 5, 2) := by decide +kernel
theorem dX7_byRow_63 : decode cX7_byRow 63 = .ok (.ifCond .eq 13, 3) := by decide +kernel
theorem dX7_byRow_66 : decode cX7_byRow 66 = .ok (.iload 4, 2) := by decide +kernel
theorem dX7_byRow_68 : decode cX7_byRow 68 = .ok (.ifCond .ge 8, 3) := by decide +kernel
theorem dX7_byRow_71 : decode cX7_byRow 71 = .ok (.iload 4, 2) := by decide +kernel
theorem dX7_byRow_73 : decode cX7_byRow 73 = .ok (.goto 4, 3) := by decide +kernel
theorem dX7_byRow_76 : decode cX7_byRow 76 = .ok (.iconst 0, 1) := by decide +kernel
theorem dX7_byRow_77 : decode cX7_byRow 77 = .ok (.iadd, 1) := by decide +kernel
theorem dX7_byRow_78 : decode cX7_byRow 78 = .ok (.istore_n 2, 1) := by decide +kernel
theorem dX7_byRow_79 : decode cX7_byRow 79 = .ok (.iinc 3 1, 3) := by decide +kernel
theorem dX7_byRow_82 : decode cX7_byRow 82 = .ok (.goto (-78), 3) := by decide +kernel
theorem dX7_byRow_85 : decode cX7_byRow 85 = .ok (.iload_n 2, 1) := by decide +kernel
theorem dX7_byRow_86 : decode cX7_byRow 86 = .ok (.aload_n 0, 1) := by decide +kernel
theorem dX7_byRow_87 : decode cX7_byRow 87 = .ok (.getfield 23, 3) := by decide +kernel
theorem dX7_byRow_90 : decode cX7_byRow 90 = .ok (.iload_n 1, 1) := by decide +kernel
theorem dX7_byRow_91 : decode cX7_byRow 91 = .ok (.iaload, 1) := by decide +kernel
theorem dX7_byRow_92 : decode cX7_byRow 92 = .ok (.if_icmp .le 10, 3) := by decide +kernel
theorem dX7_byRow_95 : decode cX7_byRow 95 = .ok (.aload_n 0, 1) := by decide +kernel
theorem dX7_byRow_96 : decode cX7_byRow 96 = .ok (.iconst 1, 1) := by decide +kernel
theorem dX7_byRow_97 : decode cX7_byRow 97 = .ok (.putfield 59, 3) := by decide +kernel
theorem dX7_byRow_100 : decode cX7_byRow 100 = .ok (.iconst 0, 1) := by decide +kernel
theorem dX7_byRow_101 : decode cX7_byRow 101 = .ok (.ireturn, 1) := by decide +kernel
theorem dX7_byRow_102 : decode cX7_byRow 102 = .ok (.iconst 0, 1) := by decide +kernel
theorem dX7_byRow_103 : decode cX7_byRow 103 = .ok (.istore_n 3, 1) := by decide +kernel
theorem dX7_byRow_104 : decode cX7_byRow 104 = .ok (.iconst 0, 1) := by decide +kernel
theorem dX7_byRow_105 : decode cX7_byRow 105 = .ok (.istore 4, 2) := by decide +kernel
theorem dX7_byRow_107 : decode cX7_byRow 107 = .ok (.iload 4, 2) := by decide +kernel
theorem dX7_byRow_109 : decode cX7_byRow 109 = .ok (.aload_n 0, 1) := by decide +kernel
theorem dX7_byRow_110 : decode cX7_byRow 110 = .ok (.getfield 63, 3) := by decide +kernel
theorem dX7_byRow_113 : decode cX7_byRow 113 = .ok (.if_icmp .ge 113, 3) := by decide +kernel
theorem dX7_byRow_116 : decode cX7_byRow 116 = .ok (.aload_n 0, 1) := by decide +kernel
theorem dX7_byRow_117 : decode cX7_byRow 117 = .ok (.getfield 26, 3) := by decide +kernel
theorem dX7_byRow_120 : decode cX7_byRow 120 = .ok (.bipush 14, 2) := by decide +kernel
theorem dX7_byRow_122 : decode cX7_byRow 122 = .ok (.iload_n 1, 1) := by decide +kernel
theorem dX7_byRow_123 : decode cX7_byRow 123 = .ok (.imul, 1) := by decide +kernel
theorem dX7_byRow_124 : decode cX7_byRow 124 = .ok (.iload 4, 2) := by decide +kernel
theorem dX7_byRow_126 : decode cX7_byRow 126 = .ok (.iadd, 1) := by decide +kernel
theorem dX7_byRow_127 : decode cX7_byRow 127 = .ok (.iaload, 1) := by decide +kernel
theorem dX7_byRow_128 : decode cX7_byRow 128 = .ok (.istore 5, 2) := by decide +kernel
theorem dX7_byRow_130 : decode cX7_byRow 130 = .ok (.aload_n 0, 1) := by decide +kernel
theorem dX7_byRow_131 : decode cX7_byRow 131 = .ok (.getfield 48, 3) := by decide +kernel
theorem dX7_byRow_134 : decode cX7_byRow 134 = .ok (.aload_n 0, 1) := by decide +kernel
theorem dX7_byRow_135 : decode cX7_byRow 135 = .ok (.getfield 52, 3) := by decide +kernel
theorem dX7_byRow_138 : decode cX7_byRow 138 = .ok (.ior, 1) := by decide +kernel
theorem dX7_byRow_139 : decode cX7_byRow 139 = .ok (.iload 4, 2) := by decide +kernel
theorem dX7_byRow_141 : decode cX7_byRow 141 = .ok (.ishr, 1) := by decide +kernel
theorem dX7_byRow_142 : decode cX7_byRow 142 = .ok (.iconst 1, 1) := by decide +kernel
theorem dX7_byRow_143 : decode cX7_byRow 143 = .ok (.iand, 1) := by decide +kernel
theorem dX7_byRow_144 : decode cX7_byRow 144 = .ok (.iconst 1, 1) := by decide +kernel
theorem dX7_byRow_145 : decode cX7_byRow 145 = .ok (.if_icmp .ne 6, 3) := by decide +kernel
theorem dX7_byRow_148 : decode cX7_byRow 148 = .ok (.goto 72, 3) := by decide +kernel
theorem dX7_byRow_151 : decode cX7_byRow 151 = .ok (.iload 5, 2) := by decide +kernel
theorem dX7_byRow_153 : decode cX7_byRow 153 = .ok (.ifCond .le 34, 3) := by decide +kernel
theorem dX7_byRow_156 : decode cX7_byRow 156 = .ok (.iload_n 2, 1) := by decide +kernel
theorem dX7_byRow_157 : decode cX7_byRow 157 = .ok (.iload 5, 2) := by decide +kernel
theorem dX7_byRow_159 : decode cX7_byRow 159 = .ok (.iadd, 1) := by decide +kernel
theorem dX7_byRow_160 : decode cX7_byRow 160 = .ok (.aload_n 0, 1) := by decide +kernel
theorem dX7_byRow_161 : decode cX7_byRow 161 = .ok (.getfield 23, 3) := by decide +kernel
theorem dX7_byRow_164 : decode cX7_byRow 164 = .ok (.iload_n 1, 1) := by decide +kernel
theorem dX7_byRow_165 : decode cX7_byRow 165 = .ok (.iaload, 1) := by decide +kernel
theorem dX7_byRow_166 : decode cX7_byRow 166 = .ok (.if_icmp .le 21, 3) := by decide +kernel
theorem dX7_byRow_169 : decode cX7_byRow 169 = .ok (.aload_n 0, 1) := by decide +kernel
theorem dX7_byRow_170 : decode cX7_byRow 170 = .ok (.dup, 1) := by decide +kernel
theorem dX7_byRow_171 : decode cX7_byRow 171 = .ok (.getfield 52, 3) := by decide +kernel
theorem dX7_byRow_174 : decode cX7_byRow 174 = .ok (.iconst 1, 1) := by decide +kernel
theorem dX7_byRow_175 : decode cX7_byRow 175 = .ok (.iload 4, 2) := by decide +kernel
theorem dX7_byRow_177 : decode cX7_byRow 177 = .ok (.ishl, 1) := by decide +kernel
theorem dX7_byRow_178 : decode cX7_byRow 178 = .ok (.ior, 1) := by decide +kernel
theorem dX7_byRow_179 : decode cX7_byRow 179 = .ok (.putfield 52, 3) := by decide +kernel
theorem dX7_byRow_182 : decode cX7_byRow 182 = .ok (.iconst 1, 1) := by decide +kernel
theorem dX7_byRow_183 : decode cX7_byRow 183 = .ok (.istore_n 3, 1) := by decide +kernel
theorem dX7_byRow_184 : decode cX7_byRow 184 = .ok (.goto 36, 3) := by decide +kernel
theorem dX7_byRow_187 : decode cX7_byRow 187 = .ok (.iload 5, 2) := by decide +kernel
theorem dX7_byRow_189 : decode cX7_byRow 189 = .ok (.ifCond .ge 31, 3) := by decide +kernel
theorem dX7_byRow_192 : decode cX7_byRow 192 = .ok (.iload_n 2, 1) := by decide +kernel
theorem dX7_byRow_193 : decode cX7_byRow 193 = .ok (.iload 5, 2) := by decide +kernel
theorem dX7_byRow_195 : decode cX7_byRow 195 = .ok (.isub, 1) := by decide +kernel
theorem dX7_byRow_196 : decode cX7_byRow 196 = .ok (.aload_n 0, 1) := by decide +kernel
theorem dX7_byRow_197 : decode cX7_byRow 197 = .ok (.getfield 23, 3) := by decide +kernel
theorem dX7_byRow_200 : decode cX7_byRow 200 = .ok (.iload_n 1, 1) := by decide +kernel
theorem dX7_byRow_201 : decode cX7_byRow 201 = .ok (.iaload, 1) := by decide +kernel
theorem dX7_byRow_202 : decode cX7_byRow 202 = .ok (.if_icmp .le 18, 3) := by decide +kernel
theorem dX7_byRow_205 : decode cX7_byRow 205 = .ok (.aload_n 0, 1) := by decide +kernel
theorem dX7_byRow_206 : decode cX7_byRow 206 = .ok (.dup, 1) := by decide +kernel
theorem dX7_byRow_207 : decode cX7_byRow 207 = .ok (.getfield 48, 3) := by decide +kernel
theorem dX7_byRow_210 : decode cX7_byRow 210 = .ok (.iconst 1, 1) := by decide +kernel
theorem dX7_byRow_211 : decode cX7_byRow 211 = .ok (.iload 4, 2) := by decide +kernel
theorem dX7_byRow_213 : decode cX7_byRow 213 = .ok (.ishl, 1) := by decide +kernel
theorem dX7_byRow_214 : decode cX7_byRow 214 = .ok (.ior, 1) := by decide +kernel
theorem dX7_byRow_215 : decode cX7_byRow 215 = .ok (.putfield 48, 3) := by decide +kernel
theorem dX7_byRow_218 : decode cX7_byRow 218 = .ok (.iconst 1, 1) := by decide +kernel
theorem dX7_byRow_219 : decode cX7_byRow 219 = .ok (.istore_n 3, 1) := by decide +kernel
theorem dX7_byRow_220 : decode cX7_byRow 220 = .ok (.iinc 4 1, 3) := by decide +kernel
theorem dX7_byRow_223 : decode cX7_byRow 223 = .ok (.goto (-116), 3) := by decide +kernel
theorem dX7_byRow_226 : decode cX7_byRow 226 = .ok (.iload_n 3, 1) := by decide +kernel
theorem dX7_byRow_227 : decode cX7_byRow 227 = .ok (.ireturn, 1) := by decide +kernel
set_option maxRecDepth 20000 in
theorem ggX7_conflicts_X7_byRow : GoodIn wsX7_conflicts wsX7_byRow := goodIn_r _ [18, 19, 20, 1, 2, 21, 3, 29, 30, 31, 32, 33, 34, 35, 36, 37, 38, 39, 40, 41, 42, 43, 44, 45, 46, 47, 48, 49, 50, 51, 52, 53, 54, 55, 56, 57, 58, 59, 60, 61, 62, 63, 64, 65, 66] (by decide +kernel) (by decide +kernel)
set_option maxRecDepth 20000 in
theorem gX7_conflicts_X7_byRow : GoodIn wsX7_conflicts (wsV RX7 69 RX7 yX7_byRow wsX7_byRow) := goodIn_app (goodIn_of _ (by decide +kernel)) ggX7_conflicts_X7_byRow
set_option maxRecDepth 20000 in
theorem ggX7_conflicts_X7_byClause : GoodIn wsX7_conflicts wsX7_byClause := goodIn_r _ [25, 1, 2, 3, 26, 27, 17, 28, 29, 30, 31, 32, 33, 34, 35, 36, 37, 38, 39, 40, 41, 42, 43, 44, 45, 46, 47, 48, 49, 50, 51, 52, 53, 54, 55, 56, 57, 58, 59, 60, 61, 62, 63, 64, 65, 66] (by decide +kernel) (by decide +kernel)
set_option maxRecDepth 20000 in
theorem gX7_conflicts_X7_byClause : GoodIn wsX7_conflicts (wsV RX7 73 RX7 yX7_byClause wsX7_byClause) := goodIn_app (goodIn_of _ (by decide +kernel)) ggX7_conflicts_X7_byClause
theorem dX7_conflicts_0 : decode cX7_conflicts 0 = .ok (.aload_n 0, 1) := by decide +kernel
theorem dX7_conflicts_1 : decode cX7_conflicts 1 = .ok (.iload_n 1, 1) := by decide +kernel
theorem dX7_conflicts_2 : decode cX7_conflicts 2 = .ok (.putfield 48, 3) := by decide +kernel
theorem dX7_conflicts_5 : decode cX7_conflicts 5 = .ok (.aload_n 0, 1) := by decide +kernel
theorem dX7_conflicts_6 : decode cX7_conflicts 6 = .ok (.iload_n 2, 1) := by decide +kernel
theorem dX7_conflicts_7 : decode cX7_conflicts 7 = .ok (.putfield 52, 3) := by decide +kernel
theorem dX7_conflicts_10 : decode cX7_conflicts 10 = .ok (.aload_n 0, 1) := by decide +kernel
theorem dX7_conflicts_11 : decode cX7_conflicts 11 = .ok (.aload_n 0, 1) := by decide +kernel
theorem dX7_conflicts_12 : decode cX7_conflicts 12 = .ok (.getfield 48, 3) := by decide +kernel
theorem dX7_conflicts_15 : decode cX7_conflicts 15 = .ok (.aload_n 0, 1) := by decide +kernel
theorem dX7_conflicts_16 : decode cX7_conflicts 16 = .ok (.getfield 52, 3) := by decide +kernel
theorem dX7_conflicts_19 : decode cX7_conflicts 19 = .ok (.iand, 1) := by decide +kernel
theorem dX7_conflicts_20 : decode cX7_conflicts 20 = .ok (.ifCond .eq 7, 3) := by decide +kernel
theorem dX7_conflicts_23 : decode cX7_conflicts 23 = .ok (.iconst 1, 1) := by decide +kernel
theorem dX7_conflicts_24 : decode cX7_conflicts 24 = .ok (.goto 4, 3) := by decide +kernel
theorem dX7_conflicts_27 : decode cX7_conflicts 27 = .ok (.iconst 0, 1) := by decide +kernel
theorem dX7_conflicts_28 : decode cX7_conflicts 28 = .ok (.putfield 59, 3) := by decide +kernel
theorem dX7_conflicts_31 : decode cX7_conflicts 31 = .ok (.iconst 1, 1) := by decide +kernel
theorem dX7_conflicts_32 : decode cX7_conflicts 32 = .ok (.istore 4, 2) := by decide +kernel
theorem dX7_conflicts_34 : decode cX7_conflicts 34 = .ok (.iload 4, 2) := by decide +kernel
theorem dX7_conflicts_36 : decode cX7_conflicts 36 = .ok (.ifCond .eq 235, 3) := by decide +kernel
theorem dX7_conflicts_39 : decode cX7_conflicts 39 = .ok (.aload_n 0, 1) := by decide +kernel
theorem dX7_conflicts_40 : decode cX7_conflicts 40 = .ok (.getfield 59, 3) := by decide +kernel
theorem dX7_conflicts_43 : decode cX7_conflicts 43 = .ok (.ifCond .ne 228, 3) := by decide +kernel
theorem dX7_conflicts_46 : decode cX7_conflicts 46 = .ok (.iconst 0, 1) := by decide +kernel
theorem dX7_conflicts_47 : decode cX7_conflicts 47 = .ok (.istore 4, 2) := by decide +kernel
theorem dX7_conflicts_49 : decode cX7_conflicts 49 = .ok (.iconst 0, 1) := by decide +kernel
theorem dX7_conflicts_50 : decode cX7_conflicts 50 = .ok (.istore 5, 2) := by decide +kernel
theorem dX7_conflicts_52 : decode cX7_conflicts 52 = .ok (.iload 5, 2) := by decide +kernel
theorem dX7_conflicts_54 : decode cX7_conflicts 54 = .ok (.aload_n 0, 1) := by decide +kernel
theorem dX7_conflicts_55 : decode cX7_conflicts 55 = .ok (.getfield 66, 3) := by decide +kernel
theorem dX7_conflicts_58 : decode cX7_conflicts 58 = .ok (.if_icmp .ge 82, 3) := by decide +kernel
theorem dX7_conflicts_61 : decode cX7_conflicts 61 = .ok (.aload_n 0, 1) := by decide +kernel
theorem dX7_conflicts_62 : decode cX7_conflicts 62 = .ok (.getfield 59, 3) := by decide +kernel
theorem dX7_conflicts_65 : decode cX7_conflicts 65 = .ok (.ifCond .ne 75, 3) := by decide +kernel
theorem dX7_conflicts_68 : decode cX7_conflicts 68 = .ok (.aload_n 0, 1) := by decide +kernel
theorem dX7_conflicts_69 : decode cX7_conflicts 69 = .ok (.getfield 7, 3) := by decide +kernel
theorem dX7_conflicts_72 : decode cX7_conflicts 72 = .ok (.iload 5, 2) := by decide +kernel
theorem dX7_conflicts_74 : decode cX7_conflicts 74 = .ok (.baload, 1) := by decide +kernel
theorem dX7_conflicts_75 : decode cX7_conflicts 75 = .ok (.ifCond .eq 59, 3) := by decide +kernel
theorem dX7_conflicts_78 : decode cX7_conflicts 78 = .ok (.aload_n 0, 1) := by decide +kernel
theorem dX7_conflicts_79 : decode cX7_conflicts 79 = .ok (.getfield 13, 3) := by decide +kernel
theorem dX7_conflicts_82 : decode cX7_conflicts 82 = .ok (.iload 5, 2) := by decide +kernel
theorem dX7_conflicts_84 : decode cX7_conflicts 84 = .ok (.baload, 1) := by decide +kernel
theorem dX7_conflicts_85 : decode cX7_conflicts 85 = .ok (.ifCond .eq 12, 3) := by decide +kernel
theorem dX7_conflicts_88 : decode cX7_conflicts 88 = .ok (.aload_n 0, 1) := by decide +kernel
theorem dX7_conflicts_89 : decode cX7_conflicts 89 = .ok (.iload 5, 2) := by decide +kernel
theorem dX7_conflicts_91 : decode cX7_conflicts 91 = .ok (.invokevirtual 69, 3) := by decide +kernel
theorem dX7_conflicts_94 : decode cX7_conflicts 94 = .ok (.goto 21, 3) := by decide +kernel
theorem dX7_conflicts_97 : decode cX7_conflicts 97 = .ok (.aload_n 0, 1) := by decide +kernel
theorem dX7_conflicts_98 : decode cX7_conflicts 98 = .ok (.aload_n 0, 1) := by decide +kernel
theorem dX7_conflicts_99 : decode cX7_conflicts 99 = .ok (.getfield 16, 3) := by decide +kernel
theorem dX7_conflicts_102 : decode cX7_conflicts 102 = .ok (.iload 5, 2) := by decide +kernel
theorem dX7_conflicts_104 : decode cX7_conflicts 104 = .ok (.iaload, 1) := by decide +kernel
theorem dX7_conflicts_105 : decode cX7_conflicts 105 = .ok (.aload_n 0, 1) := by decide +kernel
theorem dX7_conflicts_106 : decode cX7_conflicts 106 = .ok (.getfield 20, 3) := by decide +kernel
theorem dX7_conflicts_109 : decode cX7_conflicts 109 = .ok (.iload 5, 2) := by decide +kernel
theorem dX7_conflicts_111 : decode cX7_conflicts 111 = .ok (.iaload, 1) := by decide +kernel
theorem dX7_conflicts_112 : decode cX7_conflicts 112 = .ok (.invokevirtual 73, 3) := by decide +kernel
theorem dX7_conflicts_115 : decode cX7_conflicts 115 = .ok (.istore 6, 2) := by decide +kernel
theorem dX7_conflicts_117 : decode cX7_conflicts 117 = .ok (.iload 4, 2) := by decide +kernel
theorem dX7_conflicts_119 : decode cX7_conflicts 119 = .ok (.ifCond .ne 8, 3) := by decide +kernel
theorem dX7_conflicts_122 : decode cX7_conflicts 122 = .ok (.iload 6, 2) := by decide +kernel
theorem dX7_conflicts_124 : decode cX7_conflicts 124 = .ok (.ifCond .eq 7, 3) := by decide +kernel
theorem dX7_conflicts_127 : decode cX7_conflicts 127 = .ok (.iconst 1, 1) := by decide +kernel
theorem dX7_conflicts_128 : decode cX7_conflicts 128 = .ok (.goto 4, 3) := by decide +kernel
theorem dX7_conflicts_131 : decode cX7_conflicts 131 = .ok (.iconst 0, 1) := by decide +kernel
theorem dX7_conflicts_132 : decode cX7_conflicts 132 = .ok (.istore 4, 2) := by decide +kernel
theorem dX7_conflicts_134 : decode cX7_conflicts 134 = .ok (.iinc 5 1, 3) := by decide +kernel
theorem dX7_conflicts_137 : decode cX7_conflicts 137 = .ok (.goto (-85), 3) := by decide +kernel
theorem dX7_conflicts_140 : decode cX7_conflicts 140 = .ok (.iconst 0, 1) := by decide +kernel
theorem dX7_conflicts_141 : decode cX7_conflicts 141 = .ok (.istore 5, 2) := by decide +kernel
theorem dX7_conflicts_143 : decode cX7_conflicts 143 = .ok (.iload 5, 2) := by decide +kernel
theorem dX7_conflicts_145 : decode cX7_conflicts 145 = .ok (.aload_n 0, 1) := by decide +kernel
theorem dX7_conflicts_146 : decode cX7_conflicts 146 = .ok (.getfield 77, 3) := by decide +kernel
theorem dX7_conflicts_149 : decode cX7_conflicts 149 = .ok (.if_icmp .ge 52, 3) := by decide +kernel
theorem dX7_conflicts_152 : decode cX7_conflicts 152 = .ok (.iload_n 3, 1) := by decide +kernel
theorem dX7_conflicts_153 : decode cX7_conflicts 153 = .ok (.iconst 1, 1) := by decide +kernel
theorem dX7_conflicts_154 : decode cX7_conflicts 154 = .ok (.if_icmp .ne 47, 3) := by decide +kernel
theorem dX7_conflicts_157 : decode cX7_conflicts 157 = .ok (.aload_n 0, 1) := by decide +kernel
theorem dX7_conflicts_158 : decode cX7_conflicts 158 = .ok (.getfield 59, 3) := by decide +kernel
theorem dX7_conflicts_161 : decode cX7_conflicts 161 = .ok (.ifCond .ne 40, 3) := by decide +kernel
theorem dX7_conflicts_164 : decode cX7_conflicts 164 = .ok (.aload_n 0, 1) := by decide +kernel
theorem dX7_conflicts_165 : decode cX7_conflicts 165 = .ok (.aload_n 0, 1) := by decide +kernel
theorem dX7_conflicts_166 : decode cX7_conflicts 166 = .ok (.getfield 41, 3) := by decide +kernel
theorem dX7_conflicts_169 : decode cX7_conflicts 169 = .ok (.iload 5, 2) := by decide +kernel
theorem dX7_conflicts_171 : decode cX7_conflicts 171 = .ok (.iaload, 1) := by decide +kernel
theorem dX7_conflicts_172 : decode cX7_conflicts 172 = .ok (.iconst 0, 1) := by decide +kernel
theorem dX7_conflicts_173 : decode cX7_conflicts 173 = .ok (.invokevirtual 73, 3) := by decide +kernel
theorem dX7_conflicts_176 : decode cX7_conflicts 176 = .ok (.istore 6, 2) := by decide +kernel
theorem dX7_conflicts_178 : decode cX7_conflicts 178 = .ok (.iload 4, 2) := by decide +kernel
theorem dX7_conflicts_180 : decode cX7_conflicts 180 = .ok (.ifCond .ne 8, 3) := by decide +kernel
theorem dX7_conflicts_183 : decode cX7_conflicts 183 = .ok (.iload 6, 2) := by decide +kernel
theorem dX7_conflicts_185 : decode cX7_conflicts 185 = .ok (.ifCond .eq 7, 3) := by decide +kernel
theorem dX7_conflicts_188 : decode cX7_conflicts 188 = .ok (.iconst 1, 1) := by decide +kernel
theorem dX7_conflicts_189 : decode cX7_conflicts 189 = .ok (.goto 4, 3) := by decide +kernel
theorem dX7_conflicts_192 : decode cX7_conflicts 192 = .ok (.iconst 0, 1) := by decide +kernel
theorem dX7_conflicts_193 : decode cX7_conflicts 193 = .ok (.istore 4, 2) := by decide +kernel
theorem dX7_conflicts_195 : decode cX7_conflicts 195 = .ok (.iinc 5 1, 3) := by decide +kernel
theorem dX7_conflicts_198 : decode cX7_conflicts 198 = .ok (.goto (-55), 3) := by decide +kernel
theorem dX7_conflicts_201 : decode cX7_conflicts 201 = .ok (.iconst 0, 1) := by decide +kernel
theorem dX7_conflicts_202 : decode cX7_conflicts 202 = .ok (.istore 5, 2) := by decide +kernel
theorem dX7_conflicts_204 : decode cX7_conflicts 204 = .ok (.iload 5, 2) := by decide +kernel
theorem dX7_conflicts_206 : decode cX7_conflicts 206 = .ok (.aload_n 0, 1) := by decide +kernel
theorem dX7_conflicts_207 : decode cX7_conflicts 207 = .ok (.getfield 80, 3) := by decide +kernel
theorem dX7_conflicts_210 : decode cX7_conflicts 210 = .ok (.if_icmp .ge 58, 3) := by decide +kernel
theorem dX7_conflicts_213 : decode cX7_conflicts 213 = .ok (.iload_n 3, 1) := by decide +kernel
theorem dX7_conflicts_214 : decode cX7_conflicts 214 = .ok (.iconst 2, 1) := by decide +kernel
theorem dX7_conflicts_215 : decode cX7_conflicts 215 = .ok (.if_icmp .ne 53, 3) := by decide +kernel
theorem dX7_conflicts_218 : decode cX7_conflicts 218 = .ok (.aload_n 0, 1) := by decide +kernel
theorem dX7_conflicts_219 : decode cX7_conflicts 219 = .ok (.getfield 59, 3) := by decide +kernel
theorem dX7_conflicts_222 : decode cX7_conflicts 222 = .ok (.ifCond .ne 46, 3) := by decide +kernel
theorem dX7_conflicts_225 : decode cX7_conflicts 225 = .ok (.aload_n 0, 1) := by decide +kernel
theorem dX7_conflicts_226 : decode cX7_conflicts 226 = .ok (.aload_n 0, 1) := by decide +kernel
theorem dX7_conflicts_227 : decode cX7_conflicts 227 = .ok (.getfield 32, 3) := by decide +kernel
theorem dX7_conflicts_230 : decode cX7_conflicts 230 = .ok (.iload 5, 2) := by decide +kernel
theorem dX7_conflicts_232 : decode cX7_conflicts 232 = .ok (.iaload, 1) := by decide +kernel
theorem dX7_conflicts_233 : decode cX7_conflicts 233 = .ok (.aload_n 0, 1) := by decide +kernel
theorem dX7_conflicts_234 : decode cX7_conflicts 234 = .ok (.getfield 35, 3) := by decide +kernel
theorem dX7_conflicts_237 : decode cX7_conflicts 237 = .ok (.iload 5, 2) := by decide +kernel
theorem dX7_conflicts_239 : decode cX7_conflicts 239 = .ok (.iaload, 1) := by decide +kernel
theorem dX7_conflicts_240 : decode cX7_conflicts 240 = .ok (.invokevirtual 73, 3) := by decide +kernel
theorem dX7_conflicts_243 : decode cX7_conflicts 243 = .ok (.istore 6, 2) := by decide +kernel
theorem dX7_conflicts_245 : decode cX7_conflicts 245 = .ok (.iload 4, 2) := by decide +kernel
theorem dX7_conflicts_247 : decode cX7_conflicts 247 = .ok (.ifCond .ne 8, 3) := by decide +kernel
theorem dX7_conflicts_250 : decode cX7_conflicts 250 = .ok (.iload 6, 2) := by decide +kernel
theorem dX7_conflicts_252 : decode cX7_conflicts 252 = .ok (.ifCond .eq 7, 3) := by decide +kernel
theorem dX7_conflicts_255 : decode cX7_conflicts 255 = .ok (.iconst 1, 1) := by decide +kernel
theorem dX7_conflicts_256 : decode cX7_conflicts 256 = .ok (.goto 4, 3) := by decide +kernel
theorem dX7_conflicts_259 : decode cX7_conflicts 259 = .ok (.iconst 0, 1) := by decide +kernel
theorem dX7_conflicts_260 : decode cX7_conflicts 260 = .ok (.istore 4, 2) := by decide +kernel
theorem dX7_conflicts_262 : decode cX7_conflicts 262 = .ok (.iinc 5 1, 3) := by decide +kernel
theorem dX7_conflicts_265 : decode cX7_conflicts 265 = .ok (.goto (-61), 3) := by decide +kernel
theorem dX7_conflicts_268 : decode cX7_conflicts 268 = .ok (.goto (-234), 3) := by decide +kernel
theorem dX7_conflicts_271 : decode cX7_conflicts 271 = .ok (.aload_n 0, 1) := by decide +kernel
theorem dX7_conflicts_272 : decode cX7_conflicts 272 = .ok (.getfield 59, 3) := by decide +kernel
theorem dX7_conflicts_275 : decode cX7_conflicts 275 = .ok (.ireturn, 1) := by decide +kernel
theorem dX7_choiceSet_0 : decode cX7_choiceSet 0 = .ok (.iconst 0, 1) := by decide +kernel
theorem dX7_choiceSet_1 : decode cX7_choiceSet 1 = .ok (.istore_n 1, 1) := by decide +kernel
theorem dX7_choiceSet_2 : decode cX7_choiceSet 2 = .ok (.iconst 0, 1) := by decide +kernel
theorem dX7_choiceSet_3 : decode cX7_choiceSet 3 = .ok (.istore_n 2, 1) := by decide +kernel
theorem dX7_choiceSet_4 : decode cX7_choiceSet 4 = .ok (.iload_n 2, 1) := by decide +kernel
theorem dX7_choiceSet_5 : decode cX7_choiceSet 5 = .ok (.aload_n 0, 1) := by decide +kernel
theorem dX7_choiceSet_6 : decode cX7_choiceSet 6 = .ok (.getfield 83, 3) := by decide +kernel
theorem dX7_choiceSet_9 : decode cX7_choiceSet 9 = .ok (.if_icmp .ge 20, 3) := by decide +kernel
theorem dX7_choiceSet_12 : decode cX7_choiceSet 12 = .ok (.iload_n 1, 1) := by decide +kernel
theorem dX7_choiceSet_13 : decode cX7_choiceSet 13 = .ok (.iconst 1, 1) := by decide +kernel
theorem dX7_choiceSet_14 : decode cX7_choiceSet 14 = .ok (.aload_n 0, 1) := by decide +kernel
theorem dX7_choiceSet_15 : decode cX7_choiceSet 15 = .ok (.getfield 38, 3) := by decide +kernel
theorem dX7_choiceSet_18 : decode cX7_choiceSet 18 = .ok (.iload_n 2, 1) := by decide +kernel
theorem dX7_choiceSet_19 : decode cX7_choiceSet 19 = .ok (.iaload, 1) := by decide +kernel
theorem dX7_choiceSet_20 : decode cX7_choiceSet 20 = .ok (.ishl, 1) := by decide +kernel
theorem dX7_choiceSet_21 : decode cX7_choiceSet 21 = .ok (.ior, 1) := by decide +kernel
theorem dX7_choiceSet_22 : decode cX7_choiceSet 22 = .ok (.istore_n 1, 1) := by decide +kernel
theorem dX7_choiceSet_23 : decode cX7_choiceSet 23 = .ok (.iinc 2 1, 3) := by decide +kernel
theorem dX7_choiceSet_26 : decode cX7_choiceSet 26 = .ok (.goto (-22), 3) := by decide +kernel
theorem dX7_choiceSet_29 : decode cX7_choiceSet 29 = .ok (.iload_n 1, 1) := by decide +kernel
theorem dX7_choiceSet_30 : decode cX7_choiceSet 30 = .ok (.ireturn, 1) := by decide +kernel
set_option maxRecDepth 20000 in
theorem ggX7_learn_X7_choiceSet : GoodIn wsX7_learn wsX7_choiceSet := goodIn_r _ [9, 1, 2, 39, 40, 41, 42, 43, 44, 45, 46, 47, 48, 49, 50, 51, 52, 53, 54, 55, 56, 57, 58, 59, 60, 61, 62, 63, 64, 65, 66, 67, 68, 69, 70, 71, 72, 73, 74, 75, 76] (by decide +kernel) (by decide +kernel)
set_option maxRecDepth 20000 in
theorem gX7_learn_X7_choiceSet : GoodIn wsX7_learn (wsV RX7 86 RX7 yX7_choiceSet wsX7_choiceSet) := goodIn_app (goodIn_of _ (by decide +kernel)) ggX7_learn_X7_choiceSet
set_option maxRecDepth 20000 in
theorem ggX7_learn_X7_conflicts : GoodIn wsX7_learn wsX7_conflicts := goodIn_r _ [13, 14, 15, 16, 17, 18, 19, 20, 21, 4, 3, 22, 23, 24, 25, 26, 27, 8, 28, 29, 30, 31, 32, 33, 34, 35, 36, 37, 38, 39, 40, 41, 42, 43, 44, 45, 46, 47, 48, 49, 50, 51, 52, 53, 54, 55, 56, 57, 58, 59, 60, 61, 62, 63, 64, 65, 66, 67, 68, 69, 70, 71, 72, 73, 74, 75, 76] (by decide +kernel) (by decide +kernel)
set_option maxRecDepth 20000 in
theorem gX7_learn_X7_conflicts : GoodIn wsX7_learn (wsV RX7 90 RX7 yX7_conflicts wsX7_conflicts) := goodIn_app (goodIn_of _ (by decide +kernel)) ggX7_learn_X7_conflicts
theorem dX7_learn_0 : decode cX7_learn 0 = .ok (.aload_n 0, 1) := by decide +kernel
theorem dX7_learn_1 : decode cX7_learn 1 = .ok (.invokevirtual 86, 3) := by decide +kernel
theorem dX7_learn_4 : decode cX7_learn 4 = .ok (.istore_n 1, 1) := by decide +kernel
theorem dX7_learn_5 : decode cX7_learn 5 = .ok (.aload_n 0, 1) := by decide +kernel
theorem dX7_learn_6 : decode cX7_learn 6 = .ok (.getfield 83, 3) := by decide +kernel
theorem dX7_learn_9 : decode cX7_learn 9 = .ok (.iconst 1, 1) := by decide +kernel
theorem dX7_learn_10 : decode cX7_learn 10 = .ok (.isub, 1) := by decide +kernel
theorem dX7_learn_11 : decode cX7_learn 11 = .ok (.istore_n 2, 1) := by decide +kernel
theorem dX7_learn_12 : decode cX7_learn 12 = .ok (.iload_n 2, 1) := by decide +kernel
theorem dX7_learn_13 : decode cX7_learn 13 = .ok (.ifCond .lt 34, 3) := by decide +kernel
theorem dX7_learn_16 : decode cX7_learn 16 = .ok (.iload_n 1, 1) := by decide +kernel
theorem dX7_learn_17 : decode cX7_learn 17 = .ok (.iconst 1, 1) := by decide +kernel
theorem dX7_learn_18 : decode cX7_learn 18 = .ok (.aload_n 0, 1) := by decide +kernel
theorem dX7_learn_19 : decode cX7_learn 19 = .ok (.getfield 38, 3) := by decide +kernel
theorem dX7_learn_22 : decode cX7_learn 22 = .ok (.iload_n 2, 1) := by decide +kernel
theorem dX7_learn_23 : decode cX7_learn 23 = .ok (.iaload, 1) := by decide +kernel
theorem dX7_learn_24 : decode cX7_learn 24 = .ok (.ishl, 1) := by decide +kernel
theorem dX7_learn_25 : decode cX7_learn 25 = .ok (.iconst (-1), 1) := by decide +kernel
theorem dX7_learn_26 : decode cX7_learn 26 = .ok (.ixor, 1) := by decide +kernel
theorem dX7_learn_27 : decode cX7_learn 27 = .ok (.iand, 1) := by decide +kernel
theorem dX7_learn_28 : decode cX7_learn 28 = .ok (.istore_n 3, 1) := by decide +kernel
theorem dX7_learn_29 : decode cX7_learn 29 = .ok (.aload_n 0, 1) := by decide +kernel
theorem dX7_learn_30 : decode cX7_learn 30 = .ok (.iconst 0, 1) := by decide +kernel
theorem dX7_learn_31 : decode cX7_learn 31 = .ok (.iload_n 3, 1) := by decide +kernel
theorem dX7_learn_32 : decode cX7_learn 32 = .ok (.iconst 1, 1) := by decide +kernel
theorem dX7_learn_33 : decode cX7_learn 33 = .ok (.invokevirtual 90, 3) := by decide +kernel
theorem dX7_learn_36 : decode cX7_learn 36 = .ok (.ifCond .eq 5, 3) := by decide +kernel
theorem dX7_learn_39 : decode cX7_learn 39 = .ok (.iload_n 3, 1) := by decide +kernel
theorem dX7_learn_40 : decode cX7_learn 40 = .ok (.istore_n 1, 1) := by decide +kernel
theorem dX7_learn_41 : decode cX7_learn 41 = .ok (.iinc 2 (-1), 3) := by decide +kernel
theorem dX7_learn_44 : decode cX7_learn 44 = .ok (.goto (-32), 3) := by decide +kernel
theorem dX7_learn_47 : decode cX7_learn 47 = .ok (.aload_n 0, 1) := by decide +kernel
theorem dX7_learn_48 : decode cX7_learn 48 = .ok (.getfield 41, 3) := by decide +kernel
theorem dX7_learn_51 : decode cX7_learn 51 = .ok (.aload_n 0, 1) := by decide +kernel
theorem dX7_learn_52 : decode cX7_learn 52 = .ok (.getfield 77, 3) := by decide +kernel
theorem dX7_learn_55 : decode cX7_learn 55 = .ok (.iload_n 1, 1) := by decide +kernel
theorem dX7_learn_56 : decode cX7_learn 56 = .ok (.iastore, 1) := by decide +kernel
theorem dX7_learn_57 : decode cX7_learn 57 = .ok (.aload_n 0, 1) := by decide +kernel
theorem dX7_learn_58 : decode cX7_learn 58 = .ok (.dup, 1) := by decide +kernel
theorem dX7_learn_59 : decode cX7_learn 59 = .ok (.getfield 77, 3) := by decide +kernel
theorem dX7_learn_62 : decode cX7_learn 62 = .ok (.iconst 1, 1) := by decide +kernel
theorem dX7_learn_63 : decode cX7_learn 63 = .ok (.iadd, 1) := by decide +kernel
theorem dX7_learn_64 : decode cX7_learn 64 = .ok (.putfield 77, 3) := by decide +kernel
theorem dX7_learn_67 : decode cX7_learn 67 = .ok (.iconst 0, 1) := by decide +kernel
theorem dX7_learn_68 : decode cX7_learn 68 = .ok (.istore_n 2, 1) := by decide +kernel
theorem dX7_learn_69 : decode cX7_learn 69 = .ok (.iconst 0, 1) := by decide +kernel
theorem dX7_learn_70 : decode cX7_learn 70 = .ok (.istore_n 3, 1) := by decide +kernel
theorem dX7_learn_71 : decode cX7_learn 71 = .ok (.aload_n 0, 1) := by decide +kernel
theorem dX7_learn_72 : decode cX7_learn 72 = .ok (.getfield 83, 3) := by decide +kernel
theorem dX7_learn_75 : decode cX7_learn 75 = .ok (.iconst 1, 1) := by decide +kernel
theorem dX7_learn_76 : decode cX7_learn 76 = .ok (.isub, 1) := by decide +kernel
theorem dX7_learn_77 : decode cX7_learn 77 = .ok (.istore 4, 2) := by decide +kernel
theorem dX7_learn_79 : decode cX7_learn 79 = .ok (.iload 4, 2) := by decide +kernel
theorem dX7_learn_81 : decode cX7_learn 81 = .ok (.ifCond .lt 37, 3) := by decide +kernel
theorem dX7_learn_84 : decode cX7_learn 84 = .ok (.iload_n 1, 1) := by decide +kernel
theorem dX7_learn_85 : decode cX7_learn 85 = .ok (.aload_n 0, 1) := by decide +kernel
theorem dX7_learn_86 : decode cX7_learn 86 = .ok (.getfield 38, 3) := by decide +kernel
theorem dX7_learn_89 : decode cX7_learn 89 = .ok (.iload 4, 2) := by decide +kernel
theorem dX7_learn_91 : decode cX7_learn 91 = .ok (.iaload, 1) := by decide +kernel
theorem dX7_learn_92 : decode cX7_learn 92 = .ok (.ishr, 1) := by decide +kernel
theorem dX7_learn_93 : decode cX7_learn 93 = .ok (.iconst 1, 1) := by decide +kernel
theorem dX7_learn_94 : decode cX7_learn 94 = .ok (.iand, 1) := by decide +kernel
theorem dX7_learn_95 : decode cX7_learn 95 = .ok (.iconst 1, 1) := by decide +kernel
theorem dX7_learn_96 : decode cX7_learn 96 = .ok (.if_icmp .ne 16, 3) := by decide +kernel
theorem dX7_learn_99 : decode cX7_learn 99 = .ok (.iinc 3 1, 3) := by decide +kernel
theorem dX7_learn_102 : decode cX7_learn 102 = .ok (.iload_n 3, 1) := by decide +kernel
theorem dX7_learn_103 : decode cX7_learn 103 = .ok (.iconst 2, 1) := by decide +kernel
theorem dX7_learn_104 : decode cX7_learn 104 = .ok (.if_icmp .ne 8, 3) := by decide +kernel
theorem dX7_learn_107 : decode cX7_learn 107 = .ok (.iload 4, 2) := by decide +kernel
theorem dX7_learn_109 : decode cX7_learn 109 = .ok (.iconst 1, 1) := by decide +kernel
theorem dX7_learn_110 : decode cX7_learn 110 = .ok (.iadd, 1) := by decide +kernel
theorem dX7_learn_111 : decode cX7_learn 111 = .ok (.istore_n 2, 1) := by decide +kernel
theorem dX7_learn_112 : decode cX7_learn 112 = .ok (.iinc 4 (-1), 3) := by decide +kernel
theorem dX7_learn_115 : decode cX7_learn 115 = .ok (.goto (-36), 3) := by decide +kernel
theorem dX7_learn_118 : decode cX7_learn 118 = .ok (.aload_n 0, 1) := by decide +kernel
theorem dX7_learn_119 : decode cX7_learn 119 = .ok (.iload_n 2, 1) := by decide +kernel
theorem dX7_learn_120 : decode cX7_learn 120 = .ok (.putfield 83, 3) := by decide +kernel
theorem dX7_learn_123 : decode cX7_learn 123 = .ok (.return_, 1) := by decide +kernel
set_option maxRecDepth 20000 in
theorem ggX7_runSearch_X7_choiceSet : GoodIn wsX7_runSearch wsX7_choiceSet := goodIn_r _ [16, 2, 11, 48, 49, 50, 51, 52, 53, 54, 55, 56, 57, 58, 59, 60, 61, 62, 63, 64, 65, 66, 67, 68, 69, 70, 71, 72, 73, 74, 75, 76, 77, 78, 79, 80, 81, 82, 83, 84, 85] (by decide +kernel) (by decide +kernel)
set_option maxRecDepth 20000 in
theorem gX7_runSearch_X7_choiceSet : GoodIn wsX7_runSearch (wsV RX7 86 RX7 yX7_choiceSet wsX7_choiceSet) := goodIn_app (goodIn_of _ (by decide +kernel)) ggX7_runSearch_X7_choiceSet
set_option maxRecDepth 20000 in
theorem ggX7_runSearch_X7_conflicts : GoodIn wsX7_runSearch wsX7_conflicts := goodIn_r _ [20, 8, 9, 21, 22, 23, 24, 25, 26, 3, 27, 28, 29, 30, 31, 32, 33, 15, 34, 7, 35, 36, 37, 38, 39, 40, 41, 42, 43, 48, 49, 50, 51, 52, 53, 54, 55, 56, 57, 58, 59, 60, 61, 62, 63, 64, 65, 66, 67, 68, 69, 70, 71, 72, 73, 74, 75, 76, 77, 78, 79, 80, 81, 82, 83, 84, 85] (by decide +kernel) (by decide +kernel)
set_option maxRecDepth 20000 in
theorem gX7_runSearch_X7_conflicts : GoodIn wsX7_runSearch (wsV RX7 90 RX7 yX7_conflicts wsX7_conflicts) := goodIn_app (goodIn_of _ (by decide +kernel)) ggX7_runSearch_X7_conflicts
set_option maxRecDepth 20000 in
theorem ggX7_runSearch_X7_learn : GoodIn wsX7_runSearch wsX7_learn := goodIn_r _ [47, 2, 11, 27, 3, 12, 13, 14, 15, 16, 17, 18, 19, 20, 8, 9, 21, 22, 23, 24, 25, 26, 28, 29, 30, 31, 32, 33, 34, 7, 35, 36, 37, 38, 39, 40, 41, 42, 43, 48, 49, 50, 51, 52, 53, 54, 55, 56, 57, 58, 59, 60, 61, 62, 63, 64, 65, 66, 67, 68, 69, 70, 71, 72, 73, 74, 75, 76, 77, 78, 79, 80, 81, 82, 83, 84, 85] (by decide +kernel) (by decide +kernel)
set_option maxRecDepth 20000 in
theorem gX7_runSearch_X7_learn : GoodIn wsX7_runSearch (wsV RX7 106 RX7 yX7_learn wsX7_learn) := goodIn_app (goodIn_of _ (by decide +kernel)) ggX7_runSearch_X7_learn
theorem dX7_runSearch_0 : decode cX7_runSearch 0 = .ok (.aload_n 0, 1) := by decide +kernel
theorem dX7_runSearch_1 : decode cX7_runSearch 1 = .ok (.getfield 94, 3) := by decide +kernel
theorem dX7_runSearch_4 : decode cX7_runSearch 4 = .ok (.ifCond .eq 4, 3) := by decide +kernel
theorem dX7_runSearch_7 : decode cX7_runSearch 7 = .ok (.return_, 1) := by decide +kernel
theorem dX7_runSearch_8 : decode cX7_runSearch 8 = .ok (.aload_n 0, 1) := by decide +kernel
theorem dX7_runSearch_9 : decode cX7_runSearch 9 = .ok (.iconst 1, 1) := by decide +kernel
theorem dX7_runSearch_10 : decode cX7_runSearch 10 = .ok (.putfield 94, 3) := by decide +kernel
theorem dX7_runSearch_13 : decode cX7_runSearch 13 = .ok (.aload_n 0, 1) := by decide +kernel
theorem dX7_runSearch_14 : decode cX7_runSearch 14 = .ok (.iconst 0, 1) := by decide +kernel
theorem dX7_runSearch_15 : decode cX7_runSearch 15 = .ok (.putfield 83, 3) := by decide +kernel
theorem dX7_runSearch_18 : decode cX7_runSearch 18 = .ok (.aload_n 0, 1) := by decide +kernel
theorem dX7_runSearch_19 : decode cX7_runSearch 19 = .ok (.iconst 0, 1) := by decide +kernel
theorem dX7_runSearch_20 : decode cX7_runSearch 20 = .ok (.putfield 77, 3) := by decide +kernel
theorem dX7_runSearch_23 : decode cX7_runSearch 23 = .ok (.aload_n 0, 1) := by decide +kernel
theorem dX7_runSearch_24 : decode cX7_runSearch 24 = .ok (.iconst 0, 1) := by decide +kernel
theorem dX7_runSearch_25 : decode cX7_runSearch 25 = .ok (.putfield 97, 3) := by decide +kernel
theorem dX7_runSearch_28 : decode cX7_runSearch 28 = .ok (.aload_n 0, 1) := by decide +kernel
theorem dX7_runSearch_29 : decode cX7_runSearch 29 = .ok (.iconst 0, 1) := by decide +kernel
theorem dX7_runSearch_30 : decode cX7_runSearch 30 = .ok (.putfield 100, 3) := by decide +kernel
theorem dX7_runSearch_33 : decode cX7_runSearch 33 = .ok (.aload_n 0, 1) := by decide +kernel
theorem dX7_runSearch_34 : decode cX7_runSearch 34 = .ok (.iconst 0, 1) := by decide +kernel
theorem dX7_runSearch_35 : decode cX7_runSearch 35 = .ok (.putfield 103, 3) := by decide +kernel
theorem dX7_runSearch_38 : decode cX7_runSearch 38 = .ok (.iconst 1, 1) := by decide +kernel
theorem dX7_runSearch_39 : decode cX7_runSearch 39 = .ok (.aload_n 0, 1) := by decide +kernel
theorem dX7_runSearch_40 : decode cX7_runSearch 40 = .ok (.getfield 63, 3) := by decide +kernel
theorem dX7_runSearch_43 : decode cX7_runSearch 43 = .ok (.ishl, 1) := by decide +kernel
theorem dX7_runSearch_44 : decode cX7_runSearch 44 = .ok (.iconst 1, 1) := by decide +kernel
theorem dX7_runSearch_45 : decode cX7_runSearch 45 = .ok (.isub, 1) := by decide +kernel
theorem dX7_runSearch_46 : decode cX7_runSearch 46 = .ok (.istore_n 1, 1) := by decide +kernel
theorem dX7_runSearch_47 : decode cX7_runSearch 47 = .ok (.aload_n 0, 1) := by decide +kernel
theorem dX7_runSearch_48 : decode cX7_runSearch 48 = .ok (.iconst 0, 1) := by decide +kernel
theorem dX7_runSearch_49 : decode cX7_runSearch 49 = .ok (.aload_n 0, 1) := by decide +kernel
theorem dX7_runSearch_50 : decode cX7_runSearch 50 = .ok (.invokevirtual 86, 3) := by decide +kernel
theorem dX7_runSearch_53 : decode cX7_runSearch 53 = .ok (.iconst 1, 1) := by decide +kernel
theorem dX7_runSearch_54 : decode cX7_runSearch 54 = .ok (.invokevirtual 90, 3) := by decide +kernel
theorem dX7_runSearch_57 : decode cX7_runSearch 57 = .ok (.ifCond .eq 28, 3) := by decide +kernel
theorem dX7_runSearch_60 : decode cX7_runSearch 60 = .ok (.aload_n 0, 1) := by decide +kernel
theorem dX7_runSearch_61 : decode cX7_runSearch 61 = .ok (.dup, 1) := by decide +kernel
theorem dX7_runSearch_62 : decode cX7_runSearch 62 = .ok (.getfield 97, 3) := by decide +kernel
theorem dX7_runSearch_65 : decode cX7_runSearch 65 = .ok (.iconst 1, 1) := by decide +kernel
theorem dX7_runSearch_66 : decode cX7_runSearch 66 = .ok (.iadd, 1) := by decide +kernel
theorem dX7_runSearch_67 : decode cX7_runSearch 67 = .ok (.putfield 97, 3) := by decide +kernel
theorem dX7_runSearch_70 : decode cX7_runSearch 70 = .ok (.aload_n 0, 1) := by decide +kernel
theorem dX7_runSearch_71 : decode cX7_runSearch 71 = .ok (.getfield 83, 3) := by decide +kernel
theorem dX7_runSearch_74 : decode cX7_runSearch 74 = .ok (.ifCond .ne 4, 3) := by decide +kernel
theorem dX7_runSearch_77 : decode cX7_runSearch 77 = .ok (.return_, 1) := by decide +kernel
theorem dX7_runSearch_78 : decode cX7_runSearch 78 = .ok (.aload_n 0, 1) := by decide +kernel
theorem dX7_runSearch_79 : decode cX7_runSearch 79 = .ok (.invokevirtual 106, 3) := by decide +kernel
theorem dX7_runSearch_82 : decode cX7_runSearch 82 = .ok (.goto (-35), 3) := by decide +kernel
theorem dX7_runSearch_85 : decode cX7_runSearch 85 = .ok (.aload_n 0, 1) := by decide +kernel
theorem dX7_runSearch_86 : decode cX7_runSearch 86 = .ok (.getfield 48, 3) := by decide +kernel
theorem dX7_runSearch_89 : decode cX7_runSearch 89 = .ok (.aload_n 0, 1) := by decide +kernel
theorem dX7_runSearch_90 : decode cX7_runSearch 90 = .ok (.getfield 52, 3) := by decide +kernel
theorem dX7_runSearch_93 : decode cX7_runSearch 93 = .ok (.ior, 1) := by decide +kernel
theorem dX7_runSearch_94 : decode cX7_runSearch 94 = .ok (.iload_n 1, 1) := by decide +kernel
theorem dX7_runSearch_95 : decode cX7_runSearch 95 = .ok (.if_icmp .ne 17, 3) := by decide +kernel
theorem dX7_runSearch_98 : decode cX7_runSearch 98 = .ok (.aload_n 0, 1) := by decide +kernel
theorem dX7_runSearch_99 : decode cX7_runSearch 99 = .ok (.iconst 1, 1) := by decide +kernel
theorem dX7_runSearch_100 : decode cX7_runSearch 100 = .ok (.putfield 103, 3) := by decide +kernel
theorem dX7_runSearch_103 : decode cX7_runSearch 103 = .ok (.aload_n 0, 1) := by decide +kernel
theorem dX7_runSearch_104 : decode cX7_runSearch 104 = .ok (.aload_n 0, 1) := by decide +kernel
theorem dX7_runSearch_105 : decode cX7_runSearch 105 = .ok (.getfield 48, 3) := by decide +kernel
theorem dX7_runSearch_108 : decode cX7_runSearch 108 = .ok (.putfield 109, 3) := by decide +kernel
theorem dX7_runSearch_111 : decode cX7_runSearch 111 = .ok (.return_, 1) := by decide +kernel
theorem dX7_runSearch_112 : decode cX7_runSearch 112 = .ok (.iconst 0, 1) := by decide +kernel
theorem dX7_runSearch_113 : decode cX7_runSearch 113 = .ok (.istore_n 2, 1) := by decide +kernel
theorem dX7_runSearch_114 : decode cX7_runSearch 114 = .ok (.aload_n 0, 1) := by decide +kernel
theorem dX7_runSearch_115 : decode cX7_runSearch 115 = .ok (.getfield 48, 3) := by decide +kernel
theorem dX7_runSearch_118 : decode cX7_runSearch 118 = .ok (.aload_n 0, 1) := by decide +kernel
theorem dX7_runSearch_119 : decode cX7_runSearch 119 = .ok (.getfield 52, 3) := by decide +kernel
theorem dX7_runSearch_122 : decode cX7_runSearch 122 = .ok (.ior, 1) := by decide +kernel
theorem dX7_runSearch_123 : decode cX7_runSearch 123 = .ok (.iload_n 2, 1) := by decide +kernel
theorem dX7_runSearch_124 : decode cX7_runSearch 124 = .ok (.ishr, 1) := by decide +kernel
theorem dX7_runSearch_125 : decode cX7_runSearch 125 = .ok (.iconst 1, 1) := by decide +kernel
theorem dX7_runSearch_126 : decode cX7_runSearch 126 = .ok (.iand, 1) := by decide +kernel
theorem dX7_runSearch_127 : decode cX7_runSearch 127 = .ok (.iconst 1, 1) := by decide +kernel
theorem dX7_runSearch_128 : decode cX7_runSearch 128 = .ok (.if_icmp .ne 9, 3) := by decide +kernel
theorem dX7_runSearch_131 : decode cX7_runSearch 131 = .ok (.iinc 2 1, 3) := by decide +kernel
theorem dX7_runSearch_134 : decode cX7_runSearch 134 = .ok (.goto (-20), 3) := by decide +kernel
theorem dX7_runSearch_137 : decode cX7_runSearch 137 = .ok (.aload_n 0, 1) := by decide +kernel
theorem dX7_runSearch_138 : decode cX7_runSearch 138 = .ok (.getfield 38, 3) := by decide +kernel
theorem dX7_runSearch_141 : decode cX7_runSearch 141 = .ok (.aload_n 0, 1) := by decide +kernel
theorem dX7_runSearch_142 : decode cX7_runSearch 142 = .ok (.getfield 83, 3) := by decide +kernel
theorem dX7_runSearch_145 : decode cX7_runSearch 145 = .ok (.iload_n 2, 1) := by decide +kernel
theorem dX7_runSearch_146 : decode cX7_runSearch 146 = .ok (.iastore, 1) := by decide +kernel
theorem dX7_runSearch_147 : decode cX7_runSearch 147 = .ok (.aload_n 0, 1) := by decide +kernel
theorem dX7_runSearch_148 : decode cX7_runSearch 148 = .ok (.dup, 1) := by decide +kernel
theorem dX7_runSearch_149 : decode cX7_runSearch 149 = .ok (.getfield 83, 3) := by decide +kernel
theorem dX7_runSearch_152 : decode cX7_runSearch 152 = .ok (.iconst 1, 1) := by decide +kernel
theorem dX7_runSearch_153 : decode cX7_runSearch 153 = .ok (.iadd, 1) := by decide +kernel
theorem dX7_runSearch_154 : decode cX7_runSearch 154 = .ok (.putfield 83, 3) := by decide +kernel
theorem dX7_runSearch_157 : decode cX7_runSearch 157 = .ok (.aload_n 0, 1) := by decide +kernel
theorem dX7_runSearch_158 : decode cX7_runSearch 158 = .ok (.dup, 1) := by decide +kernel
theorem dX7_runSearch_159 : decode cX7_runSearch 159 = .ok (.getfield 100, 3) := by decide +kernel
theorem dX7_runSearch_162 : decode cX7_runSearch 162 = .ok (.iconst 1, 1) := by decide +kernel
theorem dX7_runSearch_163 : decode cX7_runSearch 163 = .ok (.iadd, 1) := by decide +kernel
theorem dX7_runSearch_164 : decode cX7_runSearch 164 = .ok (.putfield 100, 3) := by decide +kernel
theorem dX7_runSearch_167 : decode cX7_runSearch 167 = .ok (.goto (-120), 3) := by decide +kernel
theorem dX7_isTrue_0 : decode cX7_isTrue 0 = .ok (.iload_n 1, 1) := by decide +kernel
theorem dX7_isTrue_1 : decode cX7_isTrue 1 = .ok (.aload_n 0, 1) := by decide +kernel
theorem dX7_isTrue_2 : decode cX7_isTrue 2 = .ok (.getfield 63, 3) := by decide +kernel
theorem dX7_isTrue_5 : decode cX7_isTrue 5 = .ok (.iconst 1, 1) := by decide +kernel
theorem dX7_isTrue_6 : decode cX7_isTrue 6 = .ok (.isub, 1) := by decide +kernel
theorem dX7_isTrue_7 : decode cX7_isTrue 7 = .ok (.iload_n 2, 1) := by decide +kernel
theorem dX7_isTrue_8 : decode cX7_isTrue 8 = .ok (.isub, 1) := by decide +kernel
theorem dX7_isTrue_9 : decode cX7_isTrue 9 = .ok (.ishr, 1) := by decide +kernel
theorem dX7_isTrue_10 : decode cX7_isTrue 10 = .ok (.iconst 1, 1) := by decide +kernel
theorem dX7_isTrue_11 : decode cX7_isTrue 11 = .ok (.iand, 1) := by decide +kernel
theorem dX7_isTrue_12 : decode cX7_isTrue 12 = .ok (.iconst 1, 1) := by decide +kernel
theorem dX7_isTrue_13 : decode cX7_isTrue 13 = .ok (.if_icmp .ne 7, 3) := by decide +kernel
theorem dX7_isTrue_16 : decode cX7_isTrue 16 = .ok (.iconst 1, 1) := by decide +kernel
theorem dX7_isTrue_17 : decode cX7_isTrue 17 = .ok (.goto 4, 3) := by decide +kernel
theorem dX7_isTrue_20 : decode cX7_isTrue 20 = .ok (.iconst 0, 1) := by decide +kernel
theorem dX7_isTrue_21 : decode cX7_isTrue 21 = .ok (.ireturn, 1) := by decide +kernel
set_option maxRecDepth 20000 in
theorem ggX7_keeps_X7_isTrue : GoodIn wsX7_keeps wsX7_isTrue := goodIn_r _ [11, 1, 12, 13, 14, 15, 16, 17, 18, 19, 20, 21, 22, 23, 24, 25, 26, 27, 28, 29, 30, 31, 32, 33, 34, 35, 36, 37, 38, 39, 40, 41, 42, 43, 44, 45, 46, 47, 48, 49] (by decide +kernel) (by decide +kernel)
set_option maxRecDepth 20000 in
theorem gX7_keeps_X7_isTrue : GoodIn wsX7_keeps (wsV RX7 112 RX7 yX7_isTrue wsX7_isTrue) := goodIn_app (goodIn_of _ (by decide +kernel)) ggX7_keeps_X7_isTrue
theorem dX7_keeps_0 : decode cX7_keeps 0 = .ok (.iconst 0, 1) := by decide +kernel
theorem dX7_keeps_1 : decode cX7_keeps 1 = .ok (.istore_n 3, 1) := by decide +kernel
theorem dX7_keeps_2 : decode cX7_keeps 2 = .ok (.iconst 0, 1) := by decide +kernel
theorem dX7_keeps_3 : decode cX7_keeps 3 = .ok (.istore 4, 2) := by decide +kernel
theorem dX7_keeps_5 : decode cX7_keeps 5 = .ok (.iconst 0, 1) := by decide +kernel
theorem dX7_keeps_6 : decode cX7_keeps 6 = .ok (.istore 5, 2) := by decide +kernel
theorem dX7_keeps_8 : decode cX7_keeps 8 = .ok (.iload 5, 2) := by decide +kernel
theorem dX7_keeps_10 : decode cX7_keeps 10 = .ok (.aload_n 0, 1) := by decide +kernel
theorem dX7_keeps_11 : decode cX7_keeps 11 = .ok (.getfield 63, 3) := by decide +kernel
theorem dX7_keeps_14 : decode cX7_keeps 14 = .ok (.if_icmp .ge 91, 3) := by decide +kernel
theorem dX7_keeps_17 : decode cX7_keeps 17 = .ok (.aload_n 0, 1) := by decide +kernel
theorem dX7_keeps_18 : decode cX7_keeps 18 = .ok (.iload_n 1, 1) := by decide +kernel
theorem dX7_keeps_19 : decode cX7_keeps 19 = .ok (.iload 5, 2) := by decide +kernel
theorem dX7_keeps_21 : decode cX7_keeps 21 = .ok (.invokevirtual 112, 3) := by decide +kernel
theorem dX7_keeps_24 : decode cX7_keeps 24 = .ok (.ifCond .eq 48, 3) := by decide +kernel
theorem dX7_keeps_27 : decode cX7_keeps 27 = .ok (.iload_n 3, 1) := by decide +kernel
theorem dX7_keeps_28 : decode cX7_keeps 28 = .ok (.aload_n 0, 1) := by decide +kernel
theorem dX7_keeps_29 : decode cX7_keeps 29 = .ok (.getfield 26, 3) := by decide +kernel
theorem dX7_keeps_32 : decode cX7_keeps 32 = .ok (.bipush 14, 2) := by decide +kernel
theorem dX7_keeps_34 : decode cX7_keeps 34 = .ok (.iload_n 2, 1) := by decide +kernel
theorem dX7_keeps_35 : decode cX7_keeps 35 = .ok (.imul, 1) := by decide +kernel
theorem dX7_keeps_36 : decode cX7_keeps 36 = .ok (.iload 5, 2) := by decide +kernel
theorem dX7_keeps_38 : decode cX7_keeps 38 = .ok (.iadd, 1) := by decide +kernel
theorem dX7_keeps_39 : decode cX7_keeps 39 = .ok (.iaload, 1) := by decide +kernel
theorem dX7_keeps_40 : decode cX7_keeps 40 = .ok (.iadd, 1) := by decide +kernel
theorem dX7_keeps_41 : decode cX7_keeps 41 = .ok (.istore_n 3, 1) := by decide +kernel
theorem dX7_keeps_42 : decode cX7_keeps 42 = .ok (.iload 4, 2) := by decide +kernel
theorem dX7_keeps_44 : decode cX7_keeps 44 = .ok (.ifCond .ne 18, 3) := by decide +kernel
theorem dX7_keeps_47 : decode cX7_keeps 47 = .ok (.aload_n 0, 1) := by decide +kernel
theorem dX7_keeps_48 : decode cX7_keeps 48 = .ok (.getfield 16, 3) := by decide +kernel
theorem dX7_keeps_51 : decode cX7_keeps 51 = .ok (.iload_n 2, 1) := by decide +kernel
theorem dX7_keeps_52 : decode cX7_keeps 52 = .ok (.iaload, 1) := by decide +kernel
theorem dX7_keeps_53 : decode cX7_keeps 53 = .ok (.iload 5, 2) := by decide +kernel
theorem dX7_keeps_55 : decode cX7_keeps 55 = .ok (.ishr, 1) := by decide +kernel
theorem dX7_keeps_56 : decode cX7_keeps 56 = .ok (.iconst 1, 1) := by decide +kernel
theorem dX7_keeps_57 : decode cX7_keeps 57 = .ok (.iand, 1) := by decide +kernel
theorem dX7_keeps_58 : decode cX7_keeps 58 = .ok (.iconst 1, 1) := by decide +kernel
theorem dX7_keeps_59 : decode cX7_keeps 59 = .ok (.if_icmp .ne 7, 3) := by decide +kernel
theorem dX7_keeps_62 : decode cX7_keeps 62 = .ok (.iconst 1, 1) := by decide +kernel
theorem dX7_keeps_63 : decode cX7_keeps 63 = .ok (.goto 4, 3) := by decide +kernel
theorem dX7_keeps_66 : decode cX7_keeps 66 = .ok (.iconst 0, 1) := by decide +kernel
theorem dX7_keeps_67 : decode cX7_keeps 67 = .ok (.istore 4, 2) := by decide +kernel
theorem dX7_keeps_69 : decode cX7_keeps 69 = .ok (.goto 30, 3) := by decide +kernel
theorem dX7_keeps_72 : decode cX7_keeps 72 = .ok (.iload 4, 2) := by decide +kernel
theorem dX7_keeps_74 : decode cX7_keeps 74 = .ok (.ifCond .ne 18, 3) := by decide +kernel
theorem dX7_keeps_77 : decode cX7_keeps 77 = .ok (.aload_n 0, 1) := by decide +kernel
theorem dX7_keeps_78 : decode cX7_keeps 78 = .ok (.getfield 20, 3) := by decide +kernel
theorem dX7_keeps_81 : decode cX7_keeps 81 = .ok (.iload_n 2, 1) := by decide +kernel
theorem dX7_keeps_82 : decode cX7_keeps 82 = .ok (.iaload, 1) := by decide +kernel
theorem dX7_keeps_83 : decode cX7_keeps 83 = .ok (.iload 5, 2) := by decide +kernel
theorem dX7_keeps_85 : decode cX7_keeps 85 = .ok (.ishr, 1) := by decide +kernel
theorem dX7_keeps_86 : decode cX7_keeps 86 = .ok (.iconst 1, 1) := by decide +kernel
theorem dX7_keeps_87 : decode cX7_keeps 87 = .ok (.iand, 1) := by decide +kernel
theorem dX7_keeps_88 : decode cX7_keeps 88 = .ok (.iconst 1, 1) := by decide +kernel
theorem dX7_keeps_89 : decode cX7_keeps 89 = .ok (.if_icmp .ne 7, 3) := by decide +kernel
theorem dX7_keeps_92 : decode cX7_keeps 92 = .ok (.iconst 1, 1) := by decide +kernel
theorem dX7_keeps_93 : decode cX7_keeps 93 = .ok (.goto 4, 3) := by decide +kernel
theorem dX7_keeps_96 : decode cX7_keeps 96 = .ok (.iconst 0, 1) := by decide +kernel
theorem dX7_keeps_97 : decode cX7_keeps 97 = .ok (.istore 4, 2) := by decide +kernel
theorem dX7_keeps_99 : decode cX7_keeps 99 = .ok (.iinc 5 1, 3) := by decide +kernel
theorem dX7_keeps_102 : decode cX7_keeps 102 = .ok (.goto (-94), 3) := by decide +kernel
theorem dX7_keeps_105 : decode cX7_keeps 105 = .ok (.aload_n 0, 1) := by decide +kernel
theorem dX7_keeps_106 : decode cX7_keeps 106 = .ok (.getfield 13, 3) := by decide +kernel
theorem dX7_keeps_109 : decode cX7_keeps 109 = .ok (.iload_n 2, 1) := by decide +kernel
theorem dX7_keeps_110 : decode cX7_keeps 110 = .ok (.baload, 1) := by decide +kernel
theorem dX7_keeps_111 : decode cX7_keeps 111 = .ok (.ifCond .eq 21, 3) := by decide +kernel
theorem dX7_keeps_114 : decode cX7_keeps 114 = .ok (.iload_n 3, 1) := by decide +kernel
theorem dX7_keeps_115 : decode cX7_keeps 115 = .ok (.aload_n 0, 1) := by decide +kernel
theorem dX7_keeps_116 : decode cX7_keeps 116 = .ok (.getfield 23, 3) := by decide +kernel
theorem dX7_keeps_119 : decode cX7_keeps 119 = .ok (.iload_n 2, 1) := by decide +kernel
theorem dX7_keeps_120 : decode cX7_keeps 120 = .ok (.iaload, 1) := by decide +kernel
theorem dX7_keeps_121 : decode cX7_keeps 121 = .ok (.if_icmp .gt 7, 3) := by decide +kernel
theorem dX7_keeps_124 : decode cX7_keeps 124 = .ok (.iconst 1, 1) := by decide +kernel
theorem dX7_keeps_125 : decode cX7_keeps 125 = .ok (.goto 9, 3) := by decide +kernel
theorem dX7_keeps_128 : decode cX7_keeps 128 = .ok (.iconst 0, 1) := by decide +kernel
theorem dX7_keeps_129 : decode cX7_keeps 129 = .ok (.goto 5, 3) := by decide +kernel
theorem dX7_keeps_132 : decode cX7_keeps 132 = .ok (.iload 4, 2) := by decide +kernel
theorem dX7_keeps_134 : decode cX7_keeps 134 = .ok (.ireturn, 1) := by decide +kernel
set_option maxRecDepth 20000 in
theorem ggX7_costOf_X7_isTrue : GoodIn wsX7_costOf wsX7_isTrue := goodIn_r _ [7, 1, 8, 9, 10, 11, 12, 13, 14, 15, 16, 17, 18, 19, 20, 21, 22, 23, 24, 25, 26, 27, 28, 29, 30, 31, 32, 33, 34, 35, 36, 37, 38, 39, 40, 41, 42, 43, 44, 45] (by decide +kernel) (by decide +kernel)
set_option maxRecDepth 20000 in
theorem gX7_costOf_X7_isTrue : GoodIn wsX7_costOf (wsV RX7 112 RX7 yX7_isTrue wsX7_isTrue) := goodIn_app (goodIn_of _ (by decide +kernel)) ggX7_costOf_X7_isTrue
theorem dX7_costOf_0 : decode cX7_costOf 0 = .ok (.iconst 0, 1) := by decide +kernel
theorem dX7_costOf_1 : decode cX7_costOf 1 = .ok (.istore_n 2, 1) := by decide +kernel
theorem dX7_costOf_2 : decode cX7_costOf 2 = .ok (.iconst 0, 1) := by decide +kernel
theorem dX7_costOf_3 : decode cX7_costOf 3 = .ok (.istore_n 3, 1) := by decide +kernel
theorem dX7_costOf_4 : decode cX7_costOf 4 = .ok (.iload_n 3, 1) := by decide +kernel
theorem dX7_costOf_5 : decode cX7_costOf 5 = .ok (.aload_n 0, 1) := by decide +kernel
theorem dX7_costOf_6 : decode cX7_costOf 6 = .ok (.getfield 63, 3) := by decide +kernel
theorem dX7_costOf_9 : decode cX7_costOf 9 = .ok (.if_icmp .ge 31, 3) := by decide +kernel
theorem dX7_costOf_12 : decode cX7_costOf 12 = .ok (.iload_n 2, 1) := by decide +kernel
theorem dX7_costOf_13 : decode cX7_costOf 13 = .ok (.aload_n 0, 1) := by decide +kernel
theorem dX7_costOf_14 : decode cX7_costOf 14 = .ok (.iload_n 1, 1) := by decide +kernel
theorem dX7_costOf_15 : decode cX7_costOf 15 = .ok (.iload_n 3, 1) := by decide +kernel
theorem dX7_costOf_16 : decode cX7_costOf 16 = .ok (.invokevirtual 112, 3) := by decide +kernel
theorem dX7_costOf_19 : decode cX7_costOf 19 = .ok (.ifCond .eq 12, 3) := by decide +kernel
theorem dX7_costOf_22 : decode cX7_costOf 22 = .ok (.aload_n 0, 1) := by decide +kernel
theorem dX7_costOf_23 : decode cX7_costOf 23 = .ok (.getfield 29, 3) := by decide +kernel
theorem dX7_costOf_26 : decode cX7_costOf 26 = .ok (.iload_n 3, 1) := by decide +kernel
theorem dX7_costOf_27 : decode cX7_costOf 27 = .ok (.iaload, 1) := by decide +kernel
theorem dX7_costOf_28 : decode cX7_costOf 28 = .ok (.goto 4, 3) := by decide +kernel
theorem dX7_costOf_31 : decode cX7_costOf 31 = .ok (.iconst 0, 1) := by decide +kernel
theorem dX7_costOf_32 : decode cX7_costOf 32 = .ok (.iadd, 1) := by decide +kernel
theorem dX7_costOf_33 : decode cX7_costOf 33 = .ok (.istore_n 2, 1) := by decide +kernel
theorem dX7_costOf_34 : decode cX7_costOf 34 = .ok (.iinc 3 1, 3) := by decide +kernel
theorem dX7_costOf_37 : decode cX7_costOf 37 = .ok (.goto (-33), 3) := by decide +kernel
theorem dX7_costOf_40 : decode cX7_costOf 40 = .ok (.iload_n 2, 1) := by decide +kernel
theorem dX7_costOf_41 : decode cX7_costOf 41 = .ok (.ireturn, 1) := by decide +kernel
set_option maxRecDepth 20000 in
theorem ggX7_know_X7_keeps : GoodIn wsX7_know wsX7_keeps := goodIn_r _ [18, 5, 19, 20, 21, 22, 23, 24, 25, 26, 17, 27, 33, 34, 35, 36, 37, 38, 39, 40, 41, 42, 43, 44, 45, 46, 47, 48, 49, 50, 51, 52, 53, 54, 55, 56, 57, 58, 59, 60, 61, 62, 63, 64, 65, 66, 67, 68, 69, 70] (by decide +kernel) (by decide +kernel)
set_option maxRecDepth 20000 in
theorem gX7_know_X7_keeps : GoodIn wsX7_know (wsV RX7 127 RX7 yX7_keeps wsX7_keeps) := goodIn_app (goodIn_of _ (by decide +kernel)) ggX7_know_X7_keeps
set_option maxRecDepth 20000 in
theorem ggX7_know_X7_costOf : GoodIn wsX7_know wsX7_costOf := goodIn_r _ [31, 5, 32, 24, 25, 26, 17, 27, 33, 34, 35, 36, 37, 38, 39, 40, 41, 42, 43, 44, 45, 46, 47, 48, 49, 50, 51, 52, 53, 54, 55, 56, 57, 58, 59, 60, 61, 62, 63, 64, 65, 66, 67, 68, 69, 70] (by decide +kernel) (by decide +kernel)
set_option maxRecDepth 20000 in
theorem gX7_know_X7_costOf : GoodIn wsX7_know (wsV RX7 133 RX7 yX7_costOf wsX7_costOf) := goodIn_app (goodIn_of _ (by decide +kernel)) ggX7_know_X7_costOf
set_option maxRecDepth 20000 in
theorem ggX7_know_X7_isTrue : GoodIn wsX7_know wsX7_isTrue := goodIn_r _ [27, 5, 33, 34, 35, 36, 37, 38, 39, 40, 41, 42, 43, 44, 45, 46, 47, 48, 49, 50, 51, 52, 53, 54, 55, 56, 57, 58, 59, 60, 61, 62, 63, 64, 65, 66, 67, 68, 69, 70] (by decide +kernel) (by decide +kernel)
set_option maxRecDepth 20000 in
theorem gX7_know_X7_isTrue : GoodIn wsX7_know (wsV RX7 112 RX7 yX7_isTrue wsX7_isTrue) := goodIn_app (goodIn_of _ (by decide +kernel)) ggX7_know_X7_isTrue
theorem dX7_know_0 : decode cX7_know 0 = .ok (.aload_n 0, 1) := by decide +kernel
theorem dX7_know_1 : decode cX7_know 1 = .ok (.getfield 115, 3) := by decide +kernel
theorem dX7_know_4 : decode cX7_know 4 = .ok (.ifCond .eq 4, 3) := by decide +kernel
theorem dX7_know_7 : decode cX7_know 7 = .ok (.return_, 1) := by decide +kernel
theorem dX7_know_8 : decode cX7_know 8 = .ok (.aload_n 0, 1) := by decide +kernel
theorem dX7_know_9 : decode cX7_know 9 = .ok (.iconst 1, 1) := by decide +kernel
theorem dX7_know_10 : decode cX7_know 10 = .ok (.putfield 115, 3) := by decide +kernel
theorem dX7_know_13 : decode cX7_know 13 = .ok (.aload_n 0, 1) := by decide +kernel
theorem dX7_know_14 : decode cX7_know 14 = .ok (.iconst 0, 1) := by decide +kernel
theorem dX7_know_15 : decode cX7_know 15 = .ok (.putfield 118, 3) := by decide +kernel
theorem dX7_know_18 : decode cX7_know 18 = .ok (.aload_n 0, 1) := by decide +kernel
theorem dX7_know_19 : decode cX7_know 19 = .ok (.iconst (-1), 1) := by decide +kernel
theorem dX7_know_20 : decode cX7_know 20 = .ok (.putfield 121, 3) := by decide +kernel
theorem dX7_know_23 : decode cX7_know 23 = .ok (.aload_n 0, 1) := by decide +kernel
theorem dX7_know_24 : decode cX7_know 24 = .ok (.iconst (-1), 1) := by decide +kernel
theorem dX7_know_25 : decode cX7_know 25 = .ok (.putfield 124, 3) := by decide +kernel
theorem dX7_know_28 : decode cX7_know 28 = .ok (.iconst 1, 1) := by decide +kernel
theorem dX7_know_29 : decode cX7_know 29 = .ok (.aload_n 0, 1) := by decide +kernel
theorem dX7_know_30 : decode cX7_know 30 = .ok (.getfield 63, 3) := by decide +kernel
theorem dX7_know_33 : decode cX7_know 33 = .ok (.ishl, 1) := by decide +kernel
theorem dX7_know_34 : decode cX7_know 34 = .ok (.istore_n 1, 1) := by decide +kernel
theorem dX7_know_35 : decode cX7_know 35 = .ok (.iconst 0, 1) := by decide +kernel
theorem dX7_know_36 : decode cX7_know 36 = .ok (.istore_n 2, 1) := by decide +kernel
theorem dX7_know_37 : decode cX7_know 37 = .ok (.iload_n 2, 1) := by decide +kernel
theorem dX7_know_38 : decode cX7_know 38 = .ok (.iload_n 1, 1) := by decide +kernel
theorem dX7_know_39 : decode cX7_know 39 = .ok (.if_icmp .ge 205, 3) := by decide +kernel
theorem dX7_know_42 : decode cX7_know 42 = .ok (.aload_n 0, 1) := by decide +kernel
theorem dX7_know_43 : decode cX7_know 43 = .ok (.getfield 44, 3) := by decide +kernel
theorem dX7_know_46 : decode cX7_know 46 = .ok (.iload_n 2, 1) := by decide +kernel
theorem dX7_know_47 : decode cX7_know 47 = .ok (.lconst 0, 1) := by decide +kernel
theorem dX7_know_48 : decode cX7_know 48 = .ok (.lastore, 1) := by decide +kernel
theorem dX7_know_49 : decode cX7_know 49 = .ok (.iconst 0, 1) := by decide +kernel
theorem dX7_know_50 : decode cX7_know 50 = .ok (.istore_n 3, 1) := by decide +kernel
theorem dX7_know_51 : decode cX7_know 51 = .ok (.iload_n 3, 1) := by decide +kernel
theorem dX7_know_52 : decode cX7_know 52 = .ok (.aload_n 0, 1) := by decide +kernel
theorem dX7_know_53 : decode cX7_know 53 = .ok (.getfield 66, 3) := by decide +kernel
theorem dX7_know_56 : decode cX7_know 56 = .ok (.if_icmp .ge 43, 3) := by decide +kernel
theorem dX7_know_59 : decode cX7_know 59 = .ok (.aload_n 0, 1) := by decide +kernel
theorem dX7_know_60 : decode cX7_know 60 = .ok (.getfield 44, 3) := by decide +kernel
theorem dX7_know_63 : decode cX7_know 63 = .ok (.iload_n 2, 1) := by decide +kernel
theorem dX7_know_64 : decode cX7_know 64 = .ok (.dup2, 1) := by decide +kernel
theorem dX7_know_65 : decode cX7_know 65 = .ok (.laload, 1) := by decide +kernel
theorem dX7_know_66 : decode cX7_know 66 = .ok (.aload_n 0, 1) := by decide +kernel
theorem dX7_know_67 : decode cX7_know 67 = .ok (.getfield 7, 3) := by decide +kernel
theorem dX7_know_70 : decode cX7_know 70 = .ok (.iload_n 3, 1) := by decide +kernel
theorem dX7_know_71 : decode cX7_know 71 = .ok (.baload, 1) := by decide +kernel
theorem dX7_know_72 : decode cX7_know 72 = .ok (.ifCond .eq 18, 3) := by decide +kernel
theorem dX7_know_75 : decode cX7_know 75 = .ok (.aload_n 0, 1) := by decide +kernel
theorem dX7_know_76 : decode cX7_know 76 = .ok (.iload_n 2, 1) := by decide +kernel
theorem dX7_know_77 : decode cX7_know 77 = .ok (.iload_n 3, 1) := by decide +kernel
theorem dX7_know_78 : decode cX7_know 78 = .ok (.invokevirtual 127, 3) := by decide +kernel
theorem dX7_know_81 : decode cX7_know 81 = .ok (.ifCond .ne 9, 3) := by decide +kernel
theorem dX7_know_84 : decode cX7_know 84 = .ok (.lconst 1, 1) := by decide +kernel
theorem dX7_know_85 : decode cX7_know 85 = .ok (.iload_n 3, 1) := by decide +kernel
theorem dX7_know_86 : decode cX7_know 86 = .ok (.lshl, 1) := by decide +kernel
theorem dX7_know_87 : decode cX7_know 87 = .ok (.goto 4, 3) := by decide +kernel
theorem dX7_know_90 : decode cX7_know 90 = .ok (.lconst 0, 1) := by decide +kernel
theorem dX7_know_91 : decode cX7_know 91 = .ok (.lor, 1) := by decide +kernel
theorem dX7_know_92 : decode cX7_know 92 = .ok (.lastore, 1) := by decide +kernel
theorem dX7_know_93 : decode cX7_know 93 = .ok (.iinc 3 1, 3) := by decide +kernel
theorem dX7_know_96 : decode cX7_know 96 = .ok (.goto (-45), 3) := by decide +kernel
theorem dX7_know_99 : decode cX7_know 99 = .ok (.aload_n 0, 1) := by decide +kernel
theorem dX7_know_100 : decode cX7_know 100 = .ok (.getfield 44, 3) := by decide +kernel
theorem dX7_know_103 : decode cX7_know 103 = .ok (.iload_n 2, 1) := by decide +kernel
theorem dX7_know_104 : decode cX7_know 104 = .ok (.laload, 1) := by decide +kernel
theorem dX7_know_105 : decode cX7_know 105 = .ok (.lconst 0, 1) := by decide +kernel
theorem dX7_know_106 : decode cX7_know 106 = .ok (.lcmp, 1) := by decide +kernel
theorem dX7_know_107 : decode cX7_know 107 = .ok (.ifCond .eq 6, 3) := by decide +kernel
theorem dX7_know_110 : decode cX7_know 110 = .ok (.goto 128, 3) := by decide +kernel
theorem dX7_know_113 : decode cX7_know 113 = .ok (.aload_n 0, 1) := by decide +kernel
theorem dX7_know_114 : decode cX7_know 114 = .ok (.getfield 118, 3) := by decide +kernel
theorem dX7_know_117 : decode cX7_know 117 = .ok (.ifCond .ne 8, 3) := by decide +kernel
theorem dX7_know_120 : decode cX7_know 120 = .ok (.aload_n 0, 1) := by decide +kernel
theorem dX7_know_121 : decode cX7_know 121 = .ok (.iload_n 2, 1) := by decide +kernel
theorem dX7_know_122 : decode cX7_know 122 = .ok (.putfield 130, 3) := by decide +kernel
theorem dX7_know_125 : decode cX7_know 125 = .ok (.aload_n 0, 1) := by decide +kernel
theorem dX7_know_126 : decode cX7_know 126 = .ok (.getfield 118, 3) := by decide +kernel
theorem dX7_know_129 : decode cX7_know 129 = .ok (.ifCond .eq 15, 3) := by decide +kernel
theorem dX7_know_132 : decode cX7_know 132 = .ok (.aload_n 0, 1) := by decide +kernel
theorem dX7_know_133 : decode cX7_know 133 = .ok (.iload_n 2, 1) := by decide +kernel
theorem dX7_know_134 : decode cX7_know 134 = .ok (.invokevirtual 133, 3) := by decide +kernel
theorem dX7_know_137 : decode cX7_know 137 = .ok (.aload_n 0, 1) := by decide +kernel
theorem dX7_know_138 : decode cX7_know 138 = .ok (.getfield 136, 3) := by decide +kernel
theorem dX7_know_141 : decode cX7_know 141 = .ok (.if_icmp .ge 17, 3) := by decide +kernel
theorem dX7_know_144 : decode cX7_know 144 = .ok (.aload_n 0, 1) := by decide +kernel
theorem dX7_know_145 : decode cX7_know 145 = .ok (.iload_n 2, 1) := by decide +kernel
theorem dX7_know_146 : decode cX7_know 146 = .ok (.putfield 139, 3) := by decide +kernel
theorem dX7_know_149 : decode cX7_know 149 = .ok (.aload_n 0, 1) := by decide +kernel
theorem dX7_know_150 : decode cX7_know 150 = .ok (.aload_n 0, 1) := by decide +kernel
theorem dX7_know_151 : decode cX7_know 151 = .ok (.iload_n 2, 1) := by decide +kernel
theorem dX7_know_152 : decode cX7_know 152 = .ok (.invokevirtual 133, 3) := by decide +kernel
theorem dX7_know_155 : decode cX7_know 155 = .ok (.putfield 136, 3) := by decide +kernel
theorem dX7_know_158 : decode cX7_know 158 = .ok (.aload_n 0, 1) := by decide +kernel
theorem dX7_know_159 : decode cX7_know 159 = .ok (.dup, 1) := by decide +kernel
theorem dX7_know_160 : decode cX7_know 160 = .ok (.getfield 118, 3) := by decide +kernel
theorem dX7_know_163 : decode cX7_know 163 = .ok (.iconst 1, 1) := by decide +kernel
theorem dX7_know_164 : decode cX7_know 164 = .ok (.iadd, 1) := by decide +kernel
theorem dX7_know_165 : decode cX7_know 165 = .ok (.putfield 118, 3) := by decide +kernel
theorem dX7_know_168 : decode cX7_know 168 = .ok (.iconst 0, 1) := by decide +kernel
theorem dX7_know_169 : decode cX7_know 169 = .ok (.istore_n 3, 1) := by decide +kernel
theorem dX7_know_170 : decode cX7_know 170 = .ok (.iload_n 3, 1) := by decide +kernel
theorem dX7_know_171 : decode cX7_know 171 = .ok (.aload_n 0, 1) := by decide +kernel
theorem dX7_know_172 : decode cX7_know 172 = .ok (.getfield 63, 3) := by decide +kernel
theorem dX7_know_175 : decode cX7_know 175 = .ok (.if_icmp .ge 63, 3) := by decide +kernel
theorem dX7_know_178 : decode cX7_know 178 = .ok (.aload_n 0, 1) := by decide +kernel
theorem dX7_know_179 : decode cX7_know 179 = .ok (.dup, 1) := by decide +kernel
theorem dX7_know_180 : decode cX7_know 180 = .ok (.getfield 121, 3) := by decide +kernel
theorem dX7_know_183 : decode cX7_know 183 = .ok (.aload_n 0, 1) := by decide +kernel
theorem dX7_know_184 : decode cX7_know 184 = .ok (.iload_n 2, 1) := by decide +kernel
theorem dX7_know_185 : decode cX7_know 185 = .ok (.iload_n 3, 1) := by decide +kernel
theorem dX7_know_186 : decode cX7_know 186 = .ok (.invokevirtual 112, 3) := by decide +kernel
theorem dX7_know_189 : decode cX7_know 189 = .ok (.ifCond .eq 7, 3) := by decide +kernel
theorem dX7_know_192 : decode cX7_know 192 = .ok (.iconst (-1), 1) := by decide +kernel
theorem dX7_know_193 : decode cX7_know 193 = .ok (.goto 8, 3) := by decide +kernel
theorem dX7_know_196 : decode cX7_know 196 = .ok (.iconst 1, 1) := by decide +kernel
theorem dX7_know_197 : decode cX7_know 197 = .ok (.iload_n 3, 1) := by decide +kernel
theorem dX7_know_198 : decode cX7_know 198 = .ok (.ishl, 1) := by decide +kernel
theorem dX7_know_199 : decode cX7_know 199 = .ok (.iconst (-1), 1) := by decide +kernel
theorem dX7_know_200 : decode cX7_know 200 = .ok (.ixor, 1) := by decide +kernel
theorem dX7_know_201 : decode cX7_know 201 = .ok (.iand, 1) := by decide +kernel
theorem dX7_know_202 : decode cX7_know 202 = .ok (.putfield 121, 3) := by decide +kernel
theorem dX7_know_205 : decode cX7_know 205 = .ok (.aload_n 0, 1) := by decide +kernel
theorem dX7_know_206 : decode cX7_know 206 = .ok (.dup, 1) := by decide +kernel
theorem dX7_know_207 : decode cX7_know 207 = .ok (.getfield 124, 3) := by decide +kernel
theorem dX7_know_210 : decode cX7_know 210 = .ok (.aload_n 0, 1) := by decide +kernel
theorem dX7_know_211 : decode cX7_know 211 = .ok (.iload_n 2, 1) := by decide +kernel
theorem dX7_know_212 : decode cX7_know 212 = .ok (.iload_n 3, 1) := by decide +kernel
theorem dX7_know_213 : decode cX7_know 213 = .ok (.invokevirtual 112, 3) := by decide +kernel
theorem dX7_know_216 : decode cX7_know 216 = .ok (.ifCond .eq 11, 3) := by decide +kernel
theorem dX7_know_219 : decode cX7_know 219 = .ok (.iconst 1, 1) := by decide +kernel
theorem dX7_know_220 : decode cX7_know 220 = .ok (.iload_n 3, 1) := by decide +kernel
theorem dX7_know_221 : decode cX7_know 221 = .ok (.ishl, 1) := by decide +kernel
theorem dX7_know_222 : decode cX7_know 222 = .ok (.iconst (-1), 1) := by decide +kernel
theorem dX7_know_223 : decode cX7_know 223 = .ok (.ixor, 1) := by decide +kernel
theorem dX7_know_224 : decode cX7_know 224 = .ok (.goto 4, 3) := by decide +kernel
theorem dX7_know_227 : decode cX7_know 227 = .ok (.iconst (-1), 1) := by decide +kernel
theorem dX7_know_228 : decode cX7_know 228 = .ok (.iand, 1) := by decide +kernel
theorem dX7_know_229 : decode cX7_know 229 = .ok (.putfield 124, 3) := by decide +kernel
theorem dX7_know_232 : decode cX7_know 232 = .ok (.iinc 3 1, 3) := by decide +kernel
theorem dX7_know_235 : decode cX7_know 235 = .ok (.goto (-65), 3) := by decide +kernel
theorem dX7_know_238 : decode cX7_know 238 = .ok (.iinc 2 1, 3) := by decide +kernel
theorem dX7_know_241 : decode cX7_know 241 = .ok (.goto (-204), 3) := by decide +kernel
theorem dX7_know_244 : decode cX7_know 244 = .ok (.aload_n 0, 1) := by decide +kernel
theorem dX7_know_245 : decode cX7_know 245 = .ok (.lconst 0, 1) := by decide +kernel
theorem dX7_know_246 : decode cX7_know 246 = .ok (.putfield 142, 3) := by decide +kernel
theorem dX7_know_249 : decode cX7_know 249 = .ok (.iconst 0, 1) := by decide +kernel
theorem dX7_know_250 : decode cX7_know 250 = .ok (.istore_n 2, 1) := by decide +kernel
theorem dX7_know_251 : decode cX7_know 251 = .ok (.iload_n 2, 1) := by decide +kernel
theorem dX7_know_252 : decode cX7_know 252 = .ok (.aload_n 0, 1) := by decide +kernel
theorem dX7_know_253 : decode cX7_know 253 = .ok (.getfield 66, 3) := by decide +kernel
theorem dX7_know_256 : decode cX7_know 256 = .ok (.if_icmp .ge 34, 3) := by decide +kernel
theorem dX7_know_259 : decode cX7_know 259 = .ok (.aload_n 0, 1) := by decide +kernel
theorem dX7_know_260 : decode cX7_know 260 = .ok (.dup, 1) := by decide +kernel
theorem dX7_know_261 : decode cX7_know 261 = .ok (.getfield 142, 3) := by decide +kernel
theorem dX7_know_264 : decode cX7_know 264 = .ok (.aload_n 0, 1) := by decide +kernel
theorem dX7_know_265 : decode cX7_know 265 = .ok (.getfield 7, 3) := by decide +kernel
theorem dX7_know_268 : decode cX7_know 268 = .ok (.iload_n 2, 1) := by decide +kernel
theorem dX7_know_269 : decode cX7_know 269 = .ok (.baload, 1) := by decide +kernel
theorem dX7_know_270 : decode cX7_know 270 = .ok (.ifCond .eq 9, 3) := by decide +kernel
theorem dX7_know_273 : decode cX7_know 273 = .ok (.lconst 1, 1) := by decide +kernel
theorem dX7_know_274 : decode cX7_know 274 = .ok (.iload_n 2, 1) := by decide +kernel
theorem dX7_know_275 : decode cX7_know 275 = .ok (.lshl, 1) := by decide +kernel
theorem dX7_know_276 : decode cX7_know 276 = .ok (.goto 4, 3) := by decide +kernel
theorem dX7_know_279 : decode cX7_know 279 = .ok (.lconst 0, 1) := by decide +kernel
theorem dX7_know_280 : decode cX7_know 280 = .ok (.lor, 1) := by decide +kernel
theorem dX7_know_281 : decode cX7_know 281 = .ok (.putfield 142, 3) := by decide +kernel
theorem dX7_know_284 : decode cX7_know 284 = .ok (.iinc 2 1, 3) := by decide +kernel
theorem dX7_know_287 : decode cX7_know 287 = .ok (.goto (-36), 3) := by decide +kernel
theorem dX7_know_290 : decode cX7_know 290 = .ok (.aload_n 0, 1) := by decide +kernel
theorem dX7_know_291 : decode cX7_know 291 = .ok (.getfield 66, 3) := by decide +kernel
theorem dX7_know_294 : decode cX7_know 294 = .ok (.iconst 1, 1) := by decide +kernel
theorem dX7_know_295 : decode cX7_know 295 = .ok (.isub, 1) := by decide +kernel
theorem dX7_know_296 : decode cX7_know 296 = .ok (.istore_n 2, 1) := by decide +kernel
theorem dX7_know_297 : decode cX7_know 297 = .ok (.iload_n 2, 1) := by decide +kernel
theorem dX7_know_298 : decode cX7_know 298 = .ok (.ifCond .lt 90, 3) := by decide +kernel
theorem dX7_know_301 : decode cX7_know 301 = .ok (.aload_n 0, 1) := by decide +kernel
theorem dX7_know_302 : decode cX7_know 302 = .ok (.getfield 118, 3) := by decide +kernel
theorem dX7_know_305 : decode cX7_know 305 = .ok (.ifCond .ne 83, 3) := by decide +kernel
theorem dX7_know_308 : decode cX7_know 308 = .ok (.aload_n 0, 1) := by decide +kernel
theorem dX7_know_309 : decode cX7_know 309 = .ok (.getfield 142, 3) := by decide +kernel
theorem dX7_know_312 : decode cX7_know 312 = .ok (.lconst 1, 1) := by decide +kernel
theorem dX7_know_313 : decode cX7_know 313 = .ok (.iload_n 2, 1) := by decide +kernel
theorem dX7_know_314 : decode cX7_know 314 = .ok (.lshl, 1) := by decide +kernel
theorem dX7_know_315 : decode cX7_know 315 = .ok (.ldc2_w 146, 3) := by decide +kernel
theorem dX7_know_318 : decode cX7_know 318 = .ok (.lxor, 1) := by decide +kernel
theorem dX7_know_319 : decode cX7_know 319 = .ok (.land, 1) := by decide +kernel
theorem dX7_know_320 : decode cX7_know 320 = .ok (.lstore_n 3, 1) := by decide +kernel
theorem dX7_know_321 : decode cX7_know 321 = .ok (.iconst 1, 1) := by decide +kernel
theorem dX7_know_322 : decode cX7_know 322 = .ok (.istore 5, 2) := by decide +kernel
theorem dX7_know_324 : decode cX7_know 324 = .ok (.iconst 0, 1) := by decide +kernel
theorem dX7_know_325 : decode cX7_know 325 = .ok (.istore 6, 2) := by decide +kernel
theorem dX7_know_327 : decode cX7_know 327 = .ok (.iload 6, 2) := by decide +kernel
theorem dX7_know_329 : decode cX7_know 329 = .ok (.iload_n 1, 1) := by decide +kernel
theorem dX7_know_330 : decode cX7_know 330 = .ok (.if_icmp .ge 35, 3) := by decide +kernel
theorem dX7_know_333 : decode cX7_know 333 = .ok (.iload 5, 2) := by decide +kernel
theorem dX7_know_335 : decode cX7_know 335 = .ok (.ifCond .eq 30, 3) := by decide +kernel
theorem dX7_know_338 : decode cX7_know 338 = .ok (.aload_n 0, 1) := by decide +kernel
theorem dX7_know_339 : decode cX7_know 339 = .ok (.getfield 44, 3) := by decide +kernel
theorem dX7_know_342 : decode cX7_know 342 = .ok (.iload 6, 2) := by decide +kernel
theorem dX7_know_344 : decode cX7_know 344 = .ok (.laload, 1) := by decide +kernel
theorem dX7_know_345 : decode cX7_know 345 = .ok (.lload_n 3, 1) := by decide +kernel
theorem dX7_know_346 : decode cX7_know 346 = .ok (.land, 1) := by decide +kernel
theorem dX7_know_347 : decode cX7_know 347 = .ok (.lconst 0, 1) := by decide +kernel
theorem dX7_know_348 : decode cX7_know 348 = .ok (.lcmp, 1) := by decide +kernel
theorem dX7_know_349 : decode cX7_know 349 = .ok (.ifCond .eq 7, 3) := by decide +kernel
theorem dX7_know_352 : decode cX7_know 352 = .ok (.iconst 1, 1) := by decide +kernel
theorem dX7_know_353 : decode cX7_know 353 = .ok (.goto 4, 3) := by decide +kernel
theorem dX7_know_356 : decode cX7_know 356 = .ok (.iconst 0, 1) := by decide +kernel
theorem dX7_know_357 : decode cX7_know 357 = .ok (.istore 5, 2) := by decide +kernel
theorem dX7_know_359 : decode cX7_know 359 = .ok (.iinc 6 1, 3) := by decide +kernel
theorem dX7_know_362 : decode cX7_know 362 = .ok (.goto (-35), 3) := by decide +kernel
theorem dX7_know_365 : decode cX7_know 365 = .ok (.aload_n 0, 1) := by decide +kernel
theorem dX7_know_366 : decode cX7_know 366 = .ok (.iload 5, 2) := by decide +kernel
theorem dX7_know_368 : decode cX7_know 368 = .ok (.ifCond .eq 7, 3) := by decide +kernel
theorem dX7_know_371 : decode cX7_know 371 = .ok (.lload_n 3, 1) := by decide +kernel
theorem dX7_know_372 : decode cX7_know 372 = .ok (.goto 7, 3) := by decide +kernel
theorem dX7_know_375 : decode cX7_know 375 = .ok (.aload_n 0, 1) := by decide +kernel
theorem dX7_know_376 : decode cX7_know 376 = .ok (.getfield 142, 3) := by decide +kernel
theorem dX7_know_379 : decode cX7_know 379 = .ok (.putfield 142, 3) := by decide +kernel
theorem dX7_know_382 : decode cX7_know 382 = .ok (.iinc 2 (-1), 3) := by decide +kernel
theorem dX7_know_385 : decode cX7_know 385 = .ok (.goto (-88), 3) := by decide +kernel
theorem dX7_know_388 : decode cX7_know 388 = .ok (.return_, 1) := by decide +kernel
theorem dX7_change_0 : decode cX7_change 0 = .ok (.aload_n 0, 1) := by decide +kernel
theorem dX7_change_1 : decode cX7_change 1 = .ok (.iconst 0, 1) := by decide +kernel
theorem dX7_change_2 : decode cX7_change 2 = .ok (.putfield 115, 3) := by decide +kernel
theorem dX7_change_5 : decode cX7_change 5 = .ok (.aload_n 0, 1) := by decide +kernel
theorem dX7_change_6 : decode cX7_change 6 = .ok (.iconst 0, 1) := by decide +kernel
theorem dX7_change_7 : decode cX7_change 7 = .ok (.putfield 94, 3) := by decide +kernel
theorem dX7_change_10 : decode cX7_change 10 = .ok (.aload_n 0, 1) := by decide +kernel
theorem dX7_change_11 : decode cX7_change 11 = .ok (.iconst 0, 1) := by decide +kernel
theorem dX7_change_12 : decode cX7_change 12 = .ok (.putfield 80, 3) := by decide +kernel
theorem dX7_change_15 : decode cX7_change 15 = .ok (.return_, 1) := by decide +kernel
theorem dX7_isName_0 : decode cX7_isName 0 = .ok (.iload_n 1, 1) := by decide +kernel
theorem dX7_isName_1 : decode cX7_isName 1 = .ok (.ifCond .lt 15, 3) := by decide +kernel
theorem dX7_isName_4 : decode cX7_isName 4 = .ok (.iload_n 1, 1) := by decide +kernel
theorem dX7_isName_5 : decode cX7_isName 5 = .ok (.aload_n 0, 1) := by decide +kernel
theorem dX7_isName_6 : decode cX7_isName 6 = .ok (.getfield 63, 3) := by decide +kernel
theorem dX7_isName_9 : decode cX7_isName 9 = .ok (.if_icmp .ge 7, 3) := by decide +kernel
theorem dX7_isName_12 : decode cX7_isName 12 = .ok (.iconst 1, 1) := by decide +kernel
theorem dX7_isName_13 : decode cX7_isName 13 = .ok (.goto 4, 3) := by decide +kernel
theorem dX7_isName_16 : decode cX7_isName 16 = .ok (.iconst 0, 1) := by decide +kernel
theorem dX7_isName_17 : decode cX7_isName 17 = .ok (.ireturn, 1) := by decide +kernel
theorem dX7_isLiteral_0 : decode cX7_isLiteral 0 = .ok (.iload_n 1, 1) := by decide +kernel
theorem dX7_isLiteral_1 : decode cX7_isLiteral 1 = .ok (.ifCond .lt 17, 3) := by decide +kernel
theorem dX7_isLiteral_4 : decode cX7_isLiteral 4 = .ok (.iload_n 1, 1) := by decide +kernel
theorem dX7_isLiteral_5 : decode cX7_isLiteral 5 = .ok (.iconst 2, 1) := by decide +kernel
theorem dX7_isLiteral_6 : decode cX7_isLiteral 6 = .ok (.idiv, 1) := by decide +kernel
theorem dX7_isLiteral_7 : decode cX7_isLiteral 7 = .ok (.aload_n 0, 1) := by decide +kernel
theorem dX7_isLiteral_8 : decode cX7_isLiteral 8 = .ok (.getfield 63, 3) := by decide +kernel
theorem dX7_isLiteral_11 : decode cX7_isLiteral 11 = .ok (.if_icmp .ge 7, 3) := by decide +kernel
theorem dX7_isLiteral_14 : decode cX7_isLiteral 14 = .ok (.iconst 1, 1) := by decide +kernel
theorem dX7_isLiteral_15 : decode cX7_isLiteral 15 = .ok (.goto 4, 3) := by decide +kernel
theorem dX7_isLiteral_18 : decode cX7_isLiteral 18 = .ok (.iconst 0, 1) := by decide +kernel
theorem dX7_isLiteral_19 : decode cX7_isLiteral 19 = .ok (.ireturn, 1) := by decide +kernel
set_option maxRecDepth 20000 in
theorem ggX7_name_X7_change : GoodIn wsX7_name wsX7_change := goodIn_r _ [8, 9, 10, 11, 12, 13, 14, 15, 16, 17, 18, 19, 20, 21, 22, 23, 24, 25, 26, 27, 28, 29, 30, 31, 32, 33, 34, 35, 36, 37, 38, 39, 40, 41, 42, 43, 44, 45, 46, 47, 48, 49] (by decide +kernel) (by decide +kernel)
set_option maxRecDepth 20000 in
theorem gX7_name_X7_change : GoodIn wsX7_name (wsV RX7 148 RX7 yX7_change wsX7_change) := goodIn_app (goodIn_of _ (by decide +kernel)) ggX7_name_X7_change
theorem dX7_name_0 : decode cX7_name 0 = .ok (.aload_n 0, 1) := by decide +kernel
theorem dX7_name_1 : decode cX7_name 1 = .ok (.getfield 63, 3) := by decide +kernel
theorem dX7_name_4 : decode cX7_name 4 = .ok (.bipush 14, 2) := by decide +kernel
theorem dX7_name_6 : decode cX7_name 6 = .ok (.if_icmp .ne 6, 3) := by decide +kernel
theorem dX7_name_9 : decode cX7_name 9 = .ok (.bipush (-4), 2) := by decide +kernel
theorem dX7_name_11 : decode cX7_name 11 = .ok (.ireturn, 1) := by decide +kernel
theorem dX7_name_12 : decode cX7_name 12 = .ok (.aload_n 0, 1) := by decide +kernel
theorem dX7_name_13 : decode cX7_name 13 = .ok (.getfield 29, 3) := by decide +kernel
theorem dX7_name_16 : decode cX7_name 16 = .ok (.aload_n 0, 1) := by decide +kernel
theorem dX7_name_17 : decode cX7_name 17 = .ok (.getfield 63, 3) := by decide +kernel
theorem dX7_name_20 : decode cX7_name 20 = .ok (.iconst 0, 1) := by decide +kernel
theorem dX7_name_21 : decode cX7_name 21 = .ok (.iastore, 1) := by decide +kernel
theorem dX7_name_22 : decode cX7_name 22 = .ok (.iconst 0, 1) := by decide +kernel
theorem dX7_name_23 : decode cX7_name 23 = .ok (.istore_n 1, 1) := by decide +kernel
theorem dX7_name_24 : decode cX7_name 24 = .ok (.iload_n 1, 1) := by decide +kernel
theorem dX7_name_25 : decode cX7_name 25 = .ok (.bipush 60, 2) := by decide +kernel
theorem dX7_name_27 : decode cX7_name 27 = .ok (.if_icmp .ge 24, 3) := by decide +kernel
theorem dX7_name_30 : decode cX7_name 30 = .ok (.aload_n 0, 1) := by decide +kernel
theorem dX7_name_31 : decode cX7_name 31 = .ok (.getfield 26, 3) := by decide +kernel
theorem dX7_name_34 : decode cX7_name 34 = .ok (.bipush 14, 2) := by decide +kernel
theorem dX7_name_36 : decode cX7_name 36 = .ok (.iload_n 1, 1) := by decide +kernel
theorem dX7_name_37 : decode cX7_name 37 = .ok (.imul, 1) := by decide +kernel
theorem dX7_name_38 : decode cX7_name 38 = .ok (.aload_n 0, 1) := by decide +kernel
theorem dX7_name_39 : decode cX7_name 39 = .ok (.getfield 63, 3) := by decide +kernel
theorem dX7_name_42 : decode cX7_name 42 = .ok (.iadd, 1) := by decide +kernel
theorem dX7_name_43 : decode cX7_name 43 = .ok (.iconst 0, 1) := by decide +kernel
theorem dX7_name_44 : decode cX7_name 44 = .ok (.iastore, 1) := by decide +kernel
theorem dX7_name_45 : decode cX7_name 45 = .ok (.iinc 1 1, 3) := by decide +kernel
theorem dX7_name_48 : decode cX7_name 48 = .ok (.goto (-24), 3) := by decide +kernel
theorem dX7_name_51 : decode cX7_name 51 = .ok (.aload_n 0, 1) := by decide +kernel
theorem dX7_name_52 : decode cX7_name 52 = .ok (.dup, 1) := by decide +kernel
theorem dX7_name_53 : decode cX7_name 53 = .ok (.getfield 63, 3) := by decide +kernel
theorem dX7_name_56 : decode cX7_name 56 = .ok (.iconst 1, 1) := by decide +kernel
theorem dX7_name_57 : decode cX7_name 57 = .ok (.iadd, 1) := by decide +kernel
theorem dX7_name_58 : decode cX7_name 58 = .ok (.putfield 63, 3) := by decide +kernel
theorem dX7_name_61 : decode cX7_name 61 = .ok (.aload_n 0, 1) := by decide +kernel
theorem dX7_name_62 : decode cX7_name 62 = .ok (.invokevirtual 148, 3) := by decide +kernel
theorem dX7_name_65 : decode cX7_name 65 = .ok (.aload_n 0, 1) := by decide +kernel
theorem dX7_name_66 : decode cX7_name 66 = .ok (.getfield 63, 3) := by decide +kernel
theorem dX7_name_69 : decode cX7_name 69 = .ok (.iconst 1, 1) := by decide +kernel
theorem dX7_name_70 : decode cX7_name 70 = .ok (.isub, 1) := by decide +kernel
theorem dX7_name_71 : decode cX7_name 71 = .ok (.ireturn, 1) := by decide +kernel
set_option maxRecDepth 20000 in
theorem ggX7_literal_X7_isLiteral : GoodIn wsX7_literal wsX7_isLiteral := goodIn_r _ [8, 9, 10, 11, 12, 13, 14, 15, 16, 17, 18, 19, 20, 21, 22, 23, 24, 25, 26, 27, 28, 29, 30, 31, 32, 33, 34, 35, 36, 37, 38, 39, 40, 41, 42, 43, 44, 45, 46, 47] (by decide +kernel) (by decide +kernel)
set_option maxRecDepth 20000 in
theorem gX7_literal_X7_isLiteral : GoodIn wsX7_literal (wsV RX7 151 RX7 yX7_isLiteral wsX7_isLiteral) := goodIn_app (goodIn_of _ (by decide +kernel)) ggX7_literal_X7_isLiteral
theorem dX7_literal_0 : decode cX7_literal 0 = .ok (.aload_n 0, 1) := by decide +kernel
theorem dX7_literal_1 : decode cX7_literal 1 = .ok (.iload_n 1, 1) := by decide +kernel
theorem dX7_literal_2 : decode cX7_literal 2 = .ok (.invokevirtual 151, 3) := by decide +kernel
theorem dX7_literal_5 : decode cX7_literal 5 = .ok (.ifCond .ne 5, 3) := by decide +kernel
theorem dX7_literal_8 : decode cX7_literal 8 = .ok (.iconst (-1), 1) := by decide +kernel
theorem dX7_literal_9 : decode cX7_literal 9 = .ok (.ireturn, 1) := by decide +kernel
theorem dX7_literal_10 : decode cX7_literal 10 = .ok (.iconst 1, 1) := by decide +kernel
theorem dX7_literal_11 : decode cX7_literal 11 = .ok (.iload_n 1, 1) := by decide +kernel
theorem dX7_literal_12 : decode cX7_literal 12 = .ok (.iconst 2, 1) := by decide +kernel
theorem dX7_literal_13 : decode cX7_literal 13 = .ok (.idiv, 1) := by decide +kernel
theorem dX7_literal_14 : decode cX7_literal 14 = .ok (.ishl, 1) := by decide +kernel
theorem dX7_literal_15 : decode cX7_literal 15 = .ok (.istore_n 2, 1) := by decide +kernel
theorem dX7_literal_16 : decode cX7_literal 16 = .ok (.iload_n 1, 1) := by decide +kernel
theorem dX7_literal_17 : decode cX7_literal 17 = .ok (.iconst 2, 1) := by decide +kernel
theorem dX7_literal_18 : decode cX7_literal 18 = .ok (.irem, 1) := by decide +kernel
theorem dX7_literal_19 : decode cX7_literal 19 = .ok (.ifCond .ne 10, 3) := by decide +kernel
theorem dX7_literal_22 : decode cX7_literal 22 = .ok (.aload_n 0, 1) := by decide +kernel
theorem dX7_literal_23 : decode cX7_literal 23 = .ok (.getfield 154, 3) := by decide +kernel
theorem dX7_literal_26 : decode cX7_literal 26 = .ok (.goto 7, 3) := by decide +kernel
theorem dX7_literal_29 : decode cX7_literal 29 = .ok (.aload_n 0, 1) := by decide +kernel
theorem dX7_literal_30 : decode cX7_literal 30 = .ok (.getfield 157, 3) := by decide +kernel
theorem dX7_literal_33 : decode cX7_literal 33 = .ok (.iload_n 2, 1) := by decide +kernel
theorem dX7_literal_34 : decode cX7_literal 34 = .ok (.iand, 1) := by decide +kernel
theorem dX7_literal_35 : decode cX7_literal 35 = .ok (.ifCond .eq 8, 3) := by decide +kernel
theorem dX7_literal_38 : decode cX7_literal 38 = .ok (.aload_n 0, 1) := by decide +kernel
theorem dX7_literal_39 : decode cX7_literal 39 = .ok (.getfield 160, 3) := by decide +kernel
theorem dX7_literal_42 : decode cX7_literal 42 = .ok (.ireturn, 1) := by decide +kernel
theorem dX7_literal_43 : decode cX7_literal 43 = .ok (.aload_n 0, 1) := by decide +kernel
theorem dX7_literal_44 : decode cX7_literal 44 = .ok (.getfield 160, 3) := by decide +kernel
theorem dX7_literal_47 : decode cX7_literal 47 = .ok (.bipush 8, 2) := by decide +kernel
theorem dX7_literal_49 : decode cX7_literal 49 = .ok (.if_icmp .ne 6, 3) := by decide +kernel
theorem dX7_literal_52 : decode cX7_literal 52 = .ok (.bipush (-4), 2) := by decide +kernel
theorem dX7_literal_54 : decode cX7_literal 54 = .ok (.ireturn, 1) := by decide +kernel
theorem dX7_literal_55 : decode cX7_literal 55 = .ok (.iload_n 1, 1) := by decide +kernel
theorem dX7_literal_56 : decode cX7_literal 56 = .ok (.iconst 2, 1) := by decide +kernel
theorem dX7_literal_57 : decode cX7_literal 57 = .ok (.irem, 1) := by decide +kernel
theorem dX7_literal_58 : decode cX7_literal 58 = .ok (.ifCond .ne 16, 3) := by decide +kernel
theorem dX7_literal_61 : decode cX7_literal 61 = .ok (.aload_n 0, 1) := by decide +kernel
theorem dX7_literal_62 : decode cX7_literal 62 = .ok (.dup, 1) := by decide +kernel
theorem dX7_literal_63 : decode cX7_literal 63 = .ok (.getfield 154, 3) := by decide +kernel
theorem dX7_literal_66 : decode cX7_literal 66 = .ok (.iload_n 2, 1) := by decide +kernel
theorem dX7_literal_67 : decode cX7_literal 67 = .ok (.ior, 1) := by decide +kernel
theorem dX7_literal_68 : decode cX7_literal 68 = .ok (.putfield 154, 3) := by decide +kernel
theorem dX7_literal_71 : decode cX7_literal 71 = .ok (.goto 13, 3) := by decide +kernel
theorem dX7_literal_74 : decode cX7_literal 74 = .ok (.aload_n 0, 1) := by decide +kernel
theorem dX7_literal_75 : decode cX7_literal 75 = .ok (.dup, 1) := by decide +kernel
theorem dX7_literal_76 : decode cX7_literal 76 = .ok (.getfield 157, 3) := by decide +kernel
theorem dX7_literal_79 : decode cX7_literal 79 = .ok (.iload_n 2, 1) := by decide +kernel
theorem dX7_literal_80 : decode cX7_literal 80 = .ok (.ior, 1) := by decide +kernel
theorem dX7_literal_81 : decode cX7_literal 81 = .ok (.putfield 157, 3) := by decide +kernel
theorem dX7_literal_84 : decode cX7_literal 84 = .ok (.aload_n 0, 1) := by decide +kernel
theorem dX7_literal_85 : decode cX7_literal 85 = .ok (.dup, 1) := by decide +kernel
theorem dX7_literal_86 : decode cX7_literal 86 = .ok (.getfield 160, 3) := by decide +kernel
theorem dX7_literal_89 : decode cX7_literal 89 = .ok (.iconst 1, 1) := by decide +kernel
theorem dX7_literal_90 : decode cX7_literal 90 = .ok (.iadd, 1) := by decide +kernel
theorem dX7_literal_91 : decode cX7_literal 91 = .ok (.putfield 160, 3) := by decide +kernel
theorem dX7_literal_94 : decode cX7_literal 94 = .ok (.aload_n 0, 1) := by decide +kernel
theorem dX7_literal_95 : decode cX7_literal 95 = .ok (.getfield 160, 3) := by decide +kernel
theorem dX7_literal_98 : decode cX7_literal 98 = .ok (.ireturn, 1) := by decide +kernel
theorem dX7_emptyHand_0 : decode cX7_emptyHand 0 = .ok (.aload_n 0, 1) := by decide +kernel
theorem dX7_emptyHand_1 : decode cX7_emptyHand 1 = .ok (.iconst 0, 1) := by decide +kernel
theorem dX7_emptyHand_2 : decode cX7_emptyHand 2 = .ok (.putfield 154, 3) := by decide +kernel
theorem dX7_emptyHand_5 : decode cX7_emptyHand 5 = .ok (.aload_n 0, 1) := by decide +kernel
theorem dX7_emptyHand_6 : decode cX7_emptyHand 6 = .ok (.iconst 0, 1) := by decide +kernel
theorem dX7_emptyHand_7 : decode cX7_emptyHand 7 = .ok (.putfield 157, 3) := by decide +kernel
theorem dX7_emptyHand_10 : decode cX7_emptyHand 10 = .ok (.aload_n 0, 1) := by decide +kernel
theorem dX7_emptyHand_11 : decode cX7_emptyHand 11 = .ok (.iconst 0, 1) := by decide +kernel
theorem dX7_emptyHand_12 : decode cX7_emptyHand 12 = .ok (.putfield 160, 3) := by decide +kernel
theorem dX7_emptyHand_15 : decode cX7_emptyHand 15 = .ok (.return_, 1) := by decide +kernel
set_option maxRecDepth 20000 in
theorem ggX7_clause_X7_emptyHand : GoodIn wsX7_clause wsX7_emptyHand := goodIn_r _ [12, 5, 7, 13, 21, 22, 23, 24, 25, 26, 27, 28, 29, 30, 31, 32, 33, 34, 35, 36, 37, 38, 39, 40, 41, 42, 43, 44, 45, 46, 47, 48, 49, 50, 51, 52, 53, 54, 55, 56, 57, 58] (by decide +kernel) (by decide +kernel)
set_option maxRecDepth 20000 in
theorem gX7_clause_X7_emptyHand : GoodIn wsX7_clause (wsV RX7 163 RX7 yX7_emptyHand wsX7_emptyHand) := goodIn_app (goodIn_of _ (by decide +kernel)) ggX7_clause_X7_emptyHand
set_option maxRecDepth 20000 in
theorem ggX7_clause_X7_change : GoodIn wsX7_clause wsX7_change := goodIn_r _ [17, 18, 19, 20, 21, 22, 23, 24, 25, 26, 27, 28, 29, 30, 31, 32, 33, 34, 35, 36, 37, 38, 39, 40, 41, 42, 43, 44, 45, 46, 47, 48, 49, 50, 51, 52, 53, 54, 55, 56, 57, 58] (by decide +kernel) (by decide +kernel)
set_option maxRecDepth 20000 in
theorem gX7_clause_X7_change : GoodIn wsX7_clause (wsV RX7 148 RX7 yX7_change wsX7_change) := goodIn_app (goodIn_of _ (by decide +kernel)) ggX7_clause_X7_change
theorem dX7_clause_0 : decode cX7_clause 0 = .ok (.aload_n 0, 1) := by decide +kernel
theorem dX7_clause_1 : decode cX7_clause 1 = .ok (.getfield 66, 3) := by decide +kernel
theorem dX7_clause_4 : decode cX7_clause 4 = .ok (.bipush 60, 2) := by decide +kernel
theorem dX7_clause_6 : decode cX7_clause 6 = .ok (.if_icmp .ne 6, 3) := by decide +kernel
theorem dX7_clause_9 : decode cX7_clause 9 = .ok (.bipush (-4), 2) := by decide +kernel
theorem dX7_clause_11 : decode cX7_clause 11 = .ok (.ireturn, 1) := by decide +kernel
theorem dX7_clause_12 : decode cX7_clause 12 = .ok (.aload_n 0, 1) := by decide +kernel
theorem dX7_clause_13 : decode cX7_clause 13 = .ok (.getfield 7, 3) := by decide +kernel
theorem dX7_clause_16 : decode cX7_clause 16 = .ok (.aload_n 0, 1) := by decide +kernel
theorem dX7_clause_17 : decode cX7_clause 17 = .ok (.getfield 66, 3) := by decide +kernel
theorem dX7_clause_20 : decode cX7_clause 20 = .ok (.iconst 1, 1) := by decide +kernel
theorem dX7_clause_21 : decode cX7_clause 21 = .ok (.bastore, 1) := by decide +kernel
theorem dX7_clause_22 : decode cX7_clause 22 = .ok (.aload_n 0, 1) := by decide +kernel
theorem dX7_clause_23 : decode cX7_clause 23 = .ok (.getfield 13, 3) := by decide +kernel
theorem dX7_clause_26 : decode cX7_clause 26 = .ok (.aload_n 0, 1) := by decide +kernel
theorem dX7_clause_27 : decode cX7_clause 27 = .ok (.getfield 66, 3) := by decide +kernel
theorem dX7_clause_30 : decode cX7_clause 30 = .ok (.iconst 0, 1) := by decide +kernel
theorem dX7_clause_31 : decode cX7_clause 31 = .ok (.bastore, 1) := by decide +kernel
theorem dX7_clause_32 : decode cX7_clause 32 = .ok (.aload_n 0, 1) := by decide +kernel
theorem dX7_clause_33 : decode cX7_clause 33 = .ok (.getfield 16, 3) := by decide +kernel
theorem dX7_clause_36 : decode cX7_clause 36 = .ok (.aload_n 0, 1) := by decide +kernel
theorem dX7_clause_37 : decode cX7_clause 37 = .ok (.getfield 66, 3) := by decide +kernel
theorem dX7_clause_40 : decode cX7_clause 40 = .ok (.aload_n 0, 1) := by decide +kernel
theorem dX7_clause_41 : decode cX7_clause 41 = .ok (.getfield 154, 3) := by decide +kernel
theorem dX7_clause_44 : decode cX7_clause 44 = .ok (.iastore, 1) := by decide +kernel
theorem dX7_clause_45 : decode cX7_clause 45 = .ok (.aload_n 0, 1) := by decide +kernel
theorem dX7_clause_46 : decode cX7_clause 46 = .ok (.getfield 20, 3) := by decide +kernel
theorem dX7_clause_49 : decode cX7_clause 49 = .ok (.aload_n 0, 1) := by decide +kernel
theorem dX7_clause_50 : decode cX7_clause 50 = .ok (.getfield 66, 3) := by decide +kernel
theorem dX7_clause_53 : decode cX7_clause 53 = .ok (.aload_n 0, 1) := by decide +kernel
theorem dX7_clause_54 : decode cX7_clause 54 = .ok (.getfield 157, 3) := by decide +kernel
theorem dX7_clause_57 : decode cX7_clause 57 = .ok (.iastore, 1) := by decide +kernel
theorem dX7_clause_58 : decode cX7_clause 58 = .ok (.aload_n 0, 1) := by decide +kernel
theorem dX7_clause_59 : decode cX7_clause 59 = .ok (.invokevirtual 163, 3) := by decide +kernel
theorem dX7_clause_62 : decode cX7_clause 62 = .ok (.aload_n 0, 1) := by decide +kernel
theorem dX7_clause_63 : decode cX7_clause 63 = .ok (.dup, 1) := by decide +kernel
theorem dX7_clause_64 : decode cX7_clause 64 = .ok (.getfield 66, 3) := by decide +kernel
theorem dX7_clause_67 : decode cX7_clause 67 = .ok (.iconst 1, 1) := by decide +kernel
theorem dX7_clause_68 : decode cX7_clause 68 = .ok (.iadd, 1) := by decide +kernel
theorem dX7_clause_69 : decode cX7_clause 69 = .ok (.putfield 66, 3) := by decide +kernel
theorem dX7_clause_72 : decode cX7_clause 72 = .ok (.aload_n 0, 1) := by decide +kernel
theorem dX7_clause_73 : decode cX7_clause 73 = .ok (.invokevirtual 148, 3) := by decide +kernel
theorem dX7_clause_76 : decode cX7_clause 76 = .ok (.aload_n 0, 1) := by decide +kernel
theorem dX7_clause_77 : decode cX7_clause 77 = .ok (.getfield 66, 3) := by decide +kernel
theorem dX7_clause_80 : decode cX7_clause 80 = .ok (.iconst 1, 1) := by decide +kernel
theorem dX7_clause_81 : decode cX7_clause 81 = .ok (.isub, 1) := by decide +kernel
theorem dX7_clause_82 : decode cX7_clause 82 = .ok (.ireturn, 1) := by decide +kernel
set_option maxRecDepth 20000 in
theorem ggX7_row_X7_change : GoodIn wsX7_row wsX7_change := goodIn_r _ [10, 11, 12, 13, 14, 15, 16, 17, 18, 19, 20, 21, 22, 23, 24, 25, 26, 27, 28, 29, 30, 31, 32, 33, 34, 35, 36, 37, 38, 39, 40, 41, 42, 43, 44, 45, 46, 47, 48, 49, 50, 51] (by decide +kernel) (by decide +kernel)
set_option maxRecDepth 20000 in
theorem gX7_row_X7_change : GoodIn wsX7_row (wsV RX7 148 RX7 yX7_change wsX7_change) := goodIn_app (goodIn_of _ (by decide +kernel)) ggX7_row_X7_change
theorem dX7_row_0 : decode cX7_row 0 = .ok (.iload_n 1, 1) := by decide +kernel
theorem dX7_row_1 : decode cX7_row 1 = .ok (.sipush (-200), 3) := by decide +kernel
theorem dX7_row_4 : decode cX7_row 4 = .ok (.if_icmp .lt 10, 3) := by decide +kernel
theorem dX7_row_7 : decode cX7_row 7 = .ok (.iload_n 1, 1) := by decide +kernel
theorem dX7_row_8 : decode cX7_row 8 = .ok (.sipush 200, 3) := by decide +kernel
theorem dX7_row_11 : decode cX7_row 11 = .ok (.if_icmp .le 6, 3) := by decide +kernel
theorem dX7_row_14 : decode cX7_row 14 = .ok (.bipush (-2), 2) := by decide +kernel
theorem dX7_row_16 : decode cX7_row 16 = .ok (.ireturn, 1) := by decide +kernel
theorem dX7_row_17 : decode cX7_row 17 = .ok (.aload_n 0, 1) := by decide +kernel
theorem dX7_row_18 : decode cX7_row 18 = .ok (.getfield 66, 3) := by decide +kernel
theorem dX7_row_21 : decode cX7_row 21 = .ok (.bipush 60, 2) := by decide +kernel
theorem dX7_row_23 : decode cX7_row 23 = .ok (.if_icmp .ne 6, 3) := by decide +kernel
theorem dX7_row_26 : decode cX7_row 26 = .ok (.bipush (-4), 2) := by decide +kernel
theorem dX7_row_28 : decode cX7_row 28 = .ok (.ireturn, 1) := by decide +kernel
theorem dX7_row_29 : decode cX7_row 29 = .ok (.aload_n 0, 1) := by decide +kernel
theorem dX7_row_30 : decode cX7_row 30 = .ok (.getfield 7, 3) := by decide +kernel
theorem dX7_row_33 : decode cX7_row 33 = .ok (.aload_n 0, 1) := by decide +kernel
theorem dX7_row_34 : decode cX7_row 34 = .ok (.getfield 66, 3) := by decide +kernel
theorem dX7_row_37 : decode cX7_row 37 = .ok (.iconst 1, 1) := by decide +kernel
theorem dX7_row_38 : decode cX7_row 38 = .ok (.bastore, 1) := by decide +kernel
theorem dX7_row_39 : decode cX7_row 39 = .ok (.aload_n 0, 1) := by decide +kernel
theorem dX7_row_40 : decode cX7_row 40 = .ok (.getfield 13, 3) := by decide +kernel
theorem dX7_row_43 : decode cX7_row 43 = .ok (.aload_n 0, 1) := by decide +kernel
theorem dX7_row_44 : decode cX7_row 44 = .ok (.getfield 66, 3) := by decide +kernel
theorem dX7_row_47 : decode cX7_row 47 = .ok (.iconst 1, 1) := by decide +kernel
theorem dX7_row_48 : decode cX7_row 48 = .ok (.bastore, 1) := by decide +kernel
