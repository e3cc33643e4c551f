theorem dX6_isRest_72 : decode cX6_isRest 72 = .ok (.goto 14, 3) := by decide +kernel
theorem dX6_isRest_75 : decode cX6_isRest 75 = .ok (.iload 6, 2) := by decide +kernel
theorem dX6_isRest_77 : decode cX6_isRest 77 = .ok (.iload_n 2, 1) := by decide +kernel
theorem dX6_isRest_78 : decode cX6_isRest 78 = .ok (.if_icmp .le 7, 3) := by decide +kernel
theorem dX6_isRest_81 : decode cX6_isRest 81 = .ok (.iconst 1, 1) := by decide +kernel
theorem dX6_isRest_82 : decode cX6_isRest 82 = .ok (.goto 4, 3) := by decide +kernel
theorem dX6_isRest_85 : decode cX6_isRest 85 = .ok (.iconst 0, 1) := by decide +kernel
theorem dX6_isRest_86 : decode cX6_isRest 86 = .ok (.istore 7, 2) := by decide +kernel
theorem dX6_isRest_88 : decode cX6_isRest 88 = .ok (.iload 7, 2) := by decide +kernel
theorem dX6_isRest_90 : decode cX6_isRest 90 = .ok (.ifCond .eq 5, 3) := by decide +kernel
theorem dX6_isRest_93 : decode cX6_isRest 93 = .ok (.iconst 0, 1) := by decide +kernel
theorem dX6_isRest_94 : decode cX6_isRest 94 = .ok (.ireturn, 1) := by decide +kernel
theorem dX6_isRest_95 : decode cX6_isRest 95 = .ok (.iinc 4 1, 3) := by decide +kernel
theorem dX6_isRest_98 : decode cX6_isRest 98 = .ok (.goto (-95), 3) := by decide +kernel
theorem dX6_isRest_101 : decode cX6_isRest 101 = .ok (.iconst 1, 1) := by decide +kernel
theorem dX6_isRest_102 : decode cX6_isRest 102 = .ok (.ireturn, 1) := by decide +kernel
theorem dX6_isThereWithout_0 : decode cX6_isThereWithout 0 = .ok (.iconst 0, 1) := by decide +kernel
theorem dX6_isThereWithout_1 : decode cX6_isThereWithout 1 = .ok (.istore_n 3, 1) := by decide +kernel
theorem dX6_isThereWithout_2 : decode cX6_isThereWithout 2 = .ok (.iload_n 3, 1) := by decide +kernel
theorem dX6_isThereWithout_3 : decode cX6_isThereWithout 3 = .ok (.bipush 6, 2) := by decide +kernel
theorem dX6_isThereWithout_5 : decode cX6_isThereWithout 5 = .ok (.if_icmp .ge 40, 3) := by decide +kernel
theorem dX6_isThereWithout_8 : decode cX6_isThereWithout 8 = .ok (.iload_n 3, 1) := by decide +kernel
theorem dX6_isThereWithout_9 : decode cX6_isThereWithout 9 = .ok (.iload_n 1, 1) := by decide +kernel
theorem dX6_isThereWithout_10 : decode cX6_isThereWithout 10 = .ok (.if_icmp .eq 29, 3) := by decide +kernel
theorem dX6_isThereWithout_13 : decode cX6_isThereWithout 13 = .ok (.iload_n 2, 1) := by decide +kernel
theorem dX6_isThereWithout_14 : decode cX6_isThereWithout 14 = .ok (.iload_n 3, 1) := by decide +kernel
theorem dX6_isThereWithout_15 : decode cX6_isThereWithout 15 = .ok (.ishr, 1) := by decide +kernel
theorem dX6_isThereWithout_16 : decode cX6_isThereWithout 16 = .ok (.iconst 1, 1) := by decide +kernel
theorem dX6_isThereWithout_17 : decode cX6_isThereWithout 17 = .ok (.iand, 1) := by decide +kernel
theorem dX6_isThereWithout_18 : decode cX6_isThereWithout 18 = .ok (.iconst 1, 1) := by decide +kernel
theorem dX6_isThereWithout_19 : decode cX6_isThereWithout 19 = .ok (.if_icmp .ne 20, 3) := by decide +kernel
theorem dX6_isThereWithout_22 : decode cX6_isThereWithout 22 = .ok (.aload_n 0, 1) := by decide +kernel
theorem dX6_isThereWithout_23 : decode cX6_isThereWithout 23 = .ok (.getfield 50, 3) := by decide +kernel
theorem dX6_isThereWithout_26 : decode cX6_isThereWithout 26 = .ok (.iload_n 3, 1) := by decide +kernel
theorem dX6_isThereWithout_27 : decode cX6_isThereWithout 27 = .ok (.iaload, 1) := by decide +kernel
theorem dX6_isThereWithout_28 : decode cX6_isThereWithout 28 = .ok (.aload_n 0, 1) := by decide +kernel
theorem dX6_isThereWithout_29 : decode cX6_isThereWithout 29 = .ok (.getfield 50, 3) := by decide +kernel
theorem dX6_isThereWithout_32 : decode cX6_isThereWithout 32 = .ok (.iload_n 1, 1) := by decide +kernel
theorem dX6_isThereWithout_33 : decode cX6_isThereWithout 33 = .ok (.iaload, 1) := by decide +kernel
theorem dX6_isThereWithout_34 : decode cX6_isThereWithout 34 = .ok (.if_icmp .ne 5, 3) := by decide +kernel
theorem dX6_isThereWithout_37 : decode cX6_isThereWithout 37 = .ok (.iconst 1, 1) := by decide +kernel
theorem dX6_isThereWithout_38 : decode cX6_isThereWithout 38 = .ok (.ireturn, 1) := by decide +kernel
theorem dX6_isThereWithout_39 : decode cX6_isThereWithout 39 = .ok (.iinc 3 1, 3) := by decide +kernel
theorem dX6_isThereWithout_42 : decode cX6_isThereWithout 42 = .ok (.goto (-40), 3) := by decide +kernel
theorem dX6_isThereWithout_45 : decode cX6_isThereWithout 45 = .ok (.iconst 0, 1) := by decide +kernel
theorem dX6_isThereWithout_46 : decode cX6_isThereWithout 46 = .ok (.ireturn, 1) := by decide +kernel
theorem dX6_asHouse_0 : decode cX6_asHouse 0 = .ok (.aload_n 0, 1) := by decide +kernel
theorem dX6_asHouse_1 : decode cX6_asHouse 1 = .ok (.dup, 1) := by decide +kernel
theorem dX6_asHouse_2 : decode cX6_asHouse 2 = .ok (.getfield 58, 3) := by decide +kernel
theorem dX6_asHouse_5 : decode cX6_asHouse 5 = .ok (.lconst 1, 1) := by decide +kernel
theorem dX6_asHouse_6 : decode cX6_asHouse 6 = .ok (.ladd, 1) := by decide +kernel
theorem dX6_asHouse_7 : decode cX6_asHouse 7 = .ok (.putfield 58, 3) := by decide +kernel
theorem dX6_asHouse_10 : decode cX6_asHouse 10 = .ok (.aload_n 0, 1) := by decide +kernel
theorem dX6_asHouse_11 : decode cX6_asHouse 11 = .ok (.getfield 19, 3) := by decide +kernel
theorem dX6_asHouse_14 : decode cX6_asHouse 14 = .ok (.getfield 95, 3) := by decide +kernel
theorem dX6_asHouse_17 : decode cX6_asHouse 17 = .ok (.iload_n 1, 1) := by decide +kernel
theorem dX6_asHouse_18 : decode cX6_asHouse 18 = .ok (.iaload, 1) := by decide +kernel
theorem dX6_asHouse_19 : decode cX6_asHouse 19 = .ok (.ireturn, 1) := by decide +kernel
set_option maxRecDepth 20000 in
theorem ggX6_asCook_X6_asHouse : GoodIn wsX6_asCook wsX6_asHouse := goodIn_r _ [8, 1, 9, 19, 20, 21, 22, 23, 24, 25, 26, 27, 28, 37, 38, 39, 40, 41, 42, 43] (by decide +kernel) (by decide +kernel)
set_option maxRecDepth 20000 in
theorem gX6_asCook_X6_asHouse : GoodIn wsX6_asCook (wsV RX6 232 RX6 yX6_asHouse wsX6_asHouse) := goodIn_app (goodIn_of _ (by decide +kernel)) ggX6_asCook_X6_asHouse
set_option maxRecDepth 20000 in
theorem ggX6_asCook_X4_sortsOf : GoodIn wsX6_asCook wsX4_sortsOf := goodIn_r _ [13, 14, 15, 16, 11, 17, 18, 44] (by decide +kernel) (by decide +kernel)
set_option maxRecDepth 20000 in
theorem gX6_asCook_X4_sortsOf_n287 : GoodIn wsX6_asCook (wsX4_sortsOf) := ggX6_asCook_X4_sortsOf
theorem dX6_asCook_0 : decode cX6_asCook 0 = .ok (.aload_n 0, 1) := by decide +kernel
theorem dX6_asCook_1 : decode cX6_asCook 1 = .ok (.dup, 1) := by decide +kernel
theorem dX6_asCook_2 : decode cX6_asCook 2 = .ok (.getfield 58, 3) := by decide +kernel
theorem dX6_asCook_5 : decode cX6_asCook 5 = .ok (.ldc2_w 285, 3) := by decide +kernel
theorem dX6_asCook_8 : decode cX6_asCook 8 = .ok (.ladd, 1) := by decide +kernel
theorem dX6_asCook_9 : decode cX6_asCook 9 = .ok (.putfield 58, 3) := by decide +kernel
theorem dX6_asCook_12 : decode cX6_asCook 12 = .ok (.aload_n 0, 1) := by decide +kernel
theorem dX6_asCook_13 : decode cX6_asCook 13 = .ok (.iload_n 1, 1) := by decide +kernel
theorem dX6_asCook_14 : decode cX6_asCook 14 = .ok (.invokevirtual 232, 3) := by decide +kernel
theorem dX6_asCook_17 : decode cX6_asCook 17 = .ok (.aload_n 0, 1) := by decide +kernel
theorem dX6_asCook_18 : decode cX6_asCook 18 = .ok (.getfield 26, 3) := by decide +kernel
theorem dX6_asCook_21 : decode cX6_asCook 21 = .ok (.getfield 104, 3) := by decide +kernel
theorem dX6_asCook_24 : decode cX6_asCook 24 = .ok (.iload_n 1, 1) := by decide +kernel
theorem dX6_asCook_25 : decode cX6_asCook 25 = .ok (.invokevirtual 287, 3) := by decide +kernel
theorem dX6_asCook_28 : decode cX6_asCook 28 = .ok (.iadd, 1) := by decide +kernel
theorem dX6_asCook_29 : decode cX6_asCook 29 = .ok (.ireturn, 1) := by decide +kernel
set_option maxRecDepth 20000 in
theorem ggX6_asWidow_X6_asHouse : GoodIn wsX6_asWidow wsX6_asHouse := goodIn_r _ [8, 1, 9, 19, 20, 21, 22, 23, 24, 25, 26, 27, 28, 29, 30, 31, 32, 33, 34, 35] (by decide +kernel) (by decide +kernel)
set_option maxRecDepth 20000 in
theorem gX6_asWidow_X6_asHouse : GoodIn wsX6_asWidow (wsV RX6 232 RX6 yX6_asHouse wsX6_asHouse) := goodIn_app (goodIn_of _ (by decide +kernel)) ggX6_asWidow_X6_asHouse
set_option maxRecDepth 20000 in
theorem ggX6_asWidow_X1_allSpoonsOf : GoodIn wsX6_asWidow wsX1_allSpoonsOf := goodIn_r _ [13, 14, 15, 16, 11, 17, 18, 36, 37, 38, 39, 40, 41, 42, 43] (by decide +kernel) (by decide +kernel)
set_option maxRecDepth 20000 in
theorem gX6_asWidow_X1_allSpoonsOf_n154 : GoodIn wsX6_asWidow (wsX1_allSpoonsOf) := ggX6_asWidow_X1_allSpoonsOf
theorem dX6_asWidow_0 : decode cX6_asWidow 0 = .ok (.aload_n 0, 1) := by decide +kernel
theorem dX6_asWidow_1 : decode cX6_asWidow 1 = .ok (.dup, 1) := by decide +kernel
theorem dX6_asWidow_2 : decode cX6_asWidow 2 = .ok (.getfield 58, 3) := by decide +kernel
theorem dX6_asWidow_5 : decode cX6_asWidow 5 = .ok (.ldc2_w 290, 3) := by decide +kernel
theorem dX6_asWidow_8 : decode cX6_asWidow 8 = .ok (.ladd, 1) := by decide +kernel
theorem dX6_asWidow_9 : decode cX6_asWidow 9 = .ok (.putfield 58, 3) := by decide +kernel
theorem dX6_asWidow_12 : decode cX6_asWidow 12 = .ok (.aload_n 0, 1) := by decide +kernel
theorem dX6_asWidow_13 : decode cX6_asWidow 13 = .ok (.iload_n 1, 1) := by decide +kernel
theorem dX6_asWidow_14 : decode cX6_asWidow 14 = .ok (.invokevirtual 232, 3) := by decide +kernel
theorem dX6_asWidow_17 : decode cX6_asWidow 17 = .ok (.aload_n 0, 1) := by decide +kernel
theorem dX6_asWidow_18 : decode cX6_asWidow 18 = .ok (.getfield 26, 3) := by decide +kernel
theorem dX6_asWidow_21 : decode cX6_asWidow 21 = .ok (.iload_n 1, 1) := by decide +kernel
theorem dX6_asWidow_22 : decode cX6_asWidow 22 = .ok (.invokevirtual 154, 3) := by decide +kernel
theorem dX6_asWidow_25 : decode cX6_asWidow 25 = .ok (.isub, 1) := by decide +kernel
theorem dX6_asWidow_26 : decode cX6_asWidow 26 = .ok (.ireturn, 1) := by decide +kernel
set_option maxRecDepth 20000 in
theorem ggX6_asBaker_X6_asCook : GoodIn wsX6_asBaker wsX6_asCook := goodIn_r _ [7, 1, 8, 9, 10, 11, 12, 6, 13, 14, 15, 16, 17, 18, 19, 20, 21, 22, 23, 24, 25, 26, 27, 28, 29, 30, 31, 32, 33, 34, 35, 36, 37, 38, 39, 40, 41, 42, 43, 44, 45, 46, 47, 48, 49] (by decide +kernel) (by decide +kernel)
set_option maxRecDepth 20000 in
theorem gX6_asBaker_X6_asCook : GoodIn wsX6_asBaker (wsV RX6 235 RX6 yX6_asCook wsX6_asCook) := goodIn_app (goodIn_of _ (by decide +kernel)) ggX6_asBaker_X6_asCook
theorem dX6_asBaker_0 : decode cX6_asBaker 0 = .ok (.aload_n 0, 1) := by decide +kernel
theorem dX6_asBaker_1 : decode cX6_asBaker 1 = .ok (.dup, 1) := by decide +kernel
theorem dX6_asBaker_2 : decode cX6_asBaker 2 = .ok (.getfield 58, 3) := by decide +kernel
theorem dX6_asBaker_5 : decode cX6_asBaker 5 = .ok (.ldc2_w 292, 3) := by decide +kernel
theorem dX6_asBaker_8 : decode cX6_asBaker 8 = .ok (.ladd, 1) := by decide +kernel
theorem dX6_asBaker_9 : decode cX6_asBaker 9 = .ok (.putfield 58, 3) := by decide +kernel
theorem dX6_asBaker_12 : decode cX6_asBaker 12 = .ok (.iconst 2, 1) := by decide +kernel
theorem dX6_asBaker_13 : decode cX6_asBaker 13 = .ok (.aload_n 0, 1) := by decide +kernel
theorem dX6_asBaker_14 : decode cX6_asBaker 14 = .ok (.iload_n 1, 1) := by decide +kernel
theorem dX6_asBaker_15 : decode cX6_asBaker 15 = .ok (.invokevirtual 235, 3) := by decide +kernel
theorem dX6_asBaker_18 : decode cX6_asBaker 18 = .ok (.imul, 1) := by decide +kernel
theorem dX6_asBaker_19 : decode cX6_asBaker 19 = .ok (.ireturn, 1) := by decide +kernel
set_option maxRecDepth 20000 in
theorem ggX6_asParson_X6_asWidow : GoodIn wsX6_asParson wsX6_asWidow := goodIn_r _ [7, 1, 8, 9, 10, 11, 12, 6, 13, 14, 15, 16, 17, 18, 19, 20, 21, 22, 23, 24, 25, 26, 27, 28, 29, 30, 31, 32, 33, 34, 35, 36, 37, 38, 39, 40, 41, 42, 43, 44, 45, 46, 47, 48] (by decide +kernel) (by decide +kernel)
set_option maxRecDepth 20000 in
theorem gX6_asParson_X6_asWidow : GoodIn wsX6_asParson (wsV RX6 238 RX6 yX6_asWidow wsX6_asWidow) := goodIn_app (goodIn_of _ (by decide +kernel)) ggX6_asParson_X6_asWidow
theorem dX6_asParson_0 : decode cX6_asParson 0 = .ok (.aload_n 0, 1) := by decide +kernel
theorem dX6_asParson_1 : decode cX6_asParson 1 = .ok (.dup, 1) := by decide +kernel
theorem dX6_asParson_2 : decode cX6_asParson 2 = .ok (.getfield 58, 3) := by decide +kernel
theorem dX6_asParson_5 : decode cX6_asParson 5 = .ok (.ldc2_w 294, 3) := by decide +kernel
theorem dX6_asParson_8 : decode cX6_asParson 8 = .ok (.ladd, 1) := by decide +kernel
theorem dX6_asParson_9 : decode cX6_asParson 9 = .ok (.putfield 58, 3) := by decide +kernel
theorem dX6_asParson_12 : decode cX6_asParson 12 = .ok (.aload_n 0, 1) := by decide +kernel
theorem dX6_asParson_13 : decode cX6_asParson 13 = .ok (.iload_n 1, 1) := by decide +kernel
theorem dX6_asParson_14 : decode cX6_asParson 14 = .ok (.invokevirtual 238, 3) := by decide +kernel
theorem dX6_asParson_17 : decode cX6_asParson 17 = .ok (.iload_n 1, 1) := by decide +kernel
theorem dX6_asParson_18 : decode cX6_asParson 18 = .ok (.iadd, 1) := by decide +kernel
theorem dX6_asParson_19 : decode cX6_asParson 19 = .ok (.ireturn, 1) := by decide +kernel
set_option maxRecDepth 20000 in
theorem ggX6_asNewcomer_X6_asHouse : GoodIn wsX6_asNewcomer wsX6_asHouse := goodIn_r _ [8, 1, 9, 10, 11, 12, 13, 14, 15, 16, 17, 18, 19, 28, 29, 30, 31, 32, 33, 34] (by decide +kernel) (by decide +kernel)
set_option maxRecDepth 20000 in
theorem gX6_asNewcomer_X6_asHouse : GoodIn wsX6_asNewcomer (wsV RX6 232 RX6 yX6_asHouse wsX6_asHouse) := goodIn_app (goodIn_of _ (by decide +kernel)) ggX6_asNewcomer_X6_asHouse
theorem dX6_asNewcomer_0 : decode cX6_asNewcomer 0 = .ok (.aload_n 0, 1) := by decide +kernel
theorem dX6_asNewcomer_1 : decode cX6_asNewcomer 1 = .ok (.dup, 1) := by decide +kernel
theorem dX6_asNewcomer_2 : decode cX6_asNewcomer 2 = .ok (.getfield 58, 3) := by decide +kernel
theorem dX6_asNewcomer_5 : decode cX6_asNewcomer 5 = .ok (.ldc2_w 296, 3) := by decide +kernel
theorem dX6_asNewcomer_8 : decode cX6_asNewcomer 8 = .ok (.ladd, 1) := by decide +kernel
theorem dX6_asNewcomer_9 : decode cX6_asNewcomer 9 = .ok (.putfield 58, 3) := by decide +kernel
theorem dX6_asNewcomer_12 : decode cX6_asNewcomer 12 = .ok (.aload_n 0, 1) := by decide +kernel
theorem dX6_asNewcomer_13 : decode cX6_asNewcomer 13 = .ok (.iload_n 1, 1) := by decide +kernel
theorem dX6_asNewcomer_14 : decode cX6_asNewcomer 14 = .ok (.invokevirtual 232, 3) := by decide +kernel
theorem dX6_asNewcomer_17 : decode cX6_asNewcomer 17 = .ok (.aload_n 0, 1) := by decide +kernel
theorem dX6_asNewcomer_18 : decode cX6_asNewcomer 18 = .ok (.getfield 26, 3) := by decide +kernel
theorem dX6_asNewcomer_21 : decode cX6_asNewcomer 21 = .ok (.getfield 163, 3) := by decide +kernel
theorem dX6_asNewcomer_24 : decode cX6_asNewcomer 24 = .ok (.iadd, 1) := by decide +kernel
theorem dX6_asNewcomer_25 : decode cX6_asNewcomer 25 = .ok (.ireturn, 1) := by decide +kernel
set_option maxRecDepth 20000 in
theorem ggX6_inLeastTerms_X6_greatestDivisor : GoodIn wsX6_inLeastTerms wsX6_greatestDivisor := goodIn_r _ [4] (by decide +kernel) (by decide +kernel)
set_option maxRecDepth 20000 in
theorem gX6_inLeastTerms_X6_greatestDivisor : GoodIn wsX6_inLeastTerms (va_wsS RX6 298 yX6_greatestDivisor wsX6_greatestDivisor) := goodIn_app (goodIn_of _ (by decide +kernel)) ggX6_inLeastTerms_X6_greatestDivisor
theorem dX6_inLeastTerms_0 : decode cX6_inLeastTerms 0 = .ok (.iload 4, 2) := by decide +kernel
theorem dX6_inLeastTerms_2 : decode cX6_inLeastTerms 2 = .ok (.ifCond .ne 7, 3) := by decide +kernel
theorem dX6_inLeastTerms_5 : decode cX6_inLeastTerms 5 = .ok (.lload_n 0, 1) := by decide +kernel
theorem dX6_inLeastTerms_6 : decode cX6_inLeastTerms 6 = .ok (.goto 4, 3) := by decide +kernel
theorem dX6_inLeastTerms_9 : decode cX6_inLeastTerms 9 = .ok (.lload_n 2, 1) := by decide +kernel
theorem dX6_inLeastTerms_10 : decode cX6_inLeastTerms 10 = .ok (.lstore 5, 2) := by decide +kernel
theorem dX6_inLeastTerms_12 : decode cX6_inLeastTerms 12 = .ok (.lload_n 0, 1) := by decide +kernel
theorem dX6_inLeastTerms_13 : decode cX6_inLeastTerms 13 = .ok (.lload_n 2, 1) := by decide +kernel
theorem dX6_inLeastTerms_14 : decode cX6_inLeastTerms 14 = .ok (.invokestatic 298, 3) := by decide +kernel
theorem dX6_inLeastTerms_17 : decode cX6_inLeastTerms 17 = .ok (.lstore 7, 2) := by decide +kernel
theorem dX6_inLeastTerms_19 : decode cX6_inLeastTerms 19 = .ok (.lload 7, 2) := by decide +kernel
theorem dX6_inLeastTerms_21 : decode cX6_inLeastTerms 21 = .ok (.lconst 0, 1) := by decide +kernel
theorem dX6_inLeastTerms_22 : decode cX6_inLeastTerms 22 = .ok (.lcmp, 1) := by decide +kernel
theorem dX6_inLeastTerms_23 : decode cX6_inLeastTerms 23 = .ok (.ifCond .ne 8, 3) := by decide +kernel
theorem dX6_inLeastTerms_26 : decode cX6_inLeastTerms 26 = .ok (.lload 5, 2) := by decide +kernel
theorem dX6_inLeastTerms_28 : decode cX6_inLeastTerms 28 = .ok (.goto 8, 3) := by decide +kernel
theorem dX6_inLeastTerms_31 : decode cX6_inLeastTerms 31 = .ok (.lload 5, 2) := by decide +kernel
theorem dX6_inLeastTerms_33 : decode cX6_inLeastTerms 33 = .ok (.lload 7, 2) := by decide +kernel
theorem dX6_inLeastTerms_35 : decode cX6_inLeastTerms 35 = .ok (.ldiv, 1) := by decide +kernel
theorem dX6_inLeastTerms_36 : decode cX6_inLeastTerms 36 = .ok (.lreturn, 1) := by decide +kernel
theorem dX6_greatestDivisor_0 : decode cX6_greatestDivisor 0 = .ok (.lload_n 0, 1) := by decide +kernel
theorem dX6_greatestDivisor_1 : decode cX6_greatestDivisor 1 = .ok (.lstore 4, 2) := by decide +kernel
theorem dX6_greatestDivisor_3 : decode cX6_greatestDivisor 3 = .ok (.lload_n 2, 1) := by decide +kernel
theorem dX6_greatestDivisor_4 : decode cX6_greatestDivisor 4 = .ok (.lstore 6, 2) := by decide +kernel
theorem dX6_greatestDivisor_6 : decode cX6_greatestDivisor 6 = .ok (.iconst 0, 1) := by decide +kernel
theorem dX6_greatestDivisor_7 : decode cX6_greatestDivisor 7 = .ok (.istore 8, 2) := by decide +kernel
theorem dX6_greatestDivisor_9 : decode cX6_greatestDivisor 9 = .ok (.iload 8, 2) := by decide +kernel
theorem dX6_greatestDivisor_11 : decode cX6_greatestDivisor 11 = .ok (.bipush 100, 2) := by decide +kernel
theorem dX6_greatestDivisor_13 : decode cX6_greatestDivisor 13 = .ok (.if_icmp .ge 31, 3) := by decide +kernel
theorem dX6_greatestDivisor_16 : decode cX6_greatestDivisor 16 = .ok (.lload 6, 2) := by decide +kernel
theorem dX6_greatestDivisor_18 : decode cX6_greatestDivisor 18 = .ok (.lconst 0, 1) := by decide +kernel
theorem dX6_greatestDivisor_19 : decode cX6_greatestDivisor 19 = .ok (.lcmp, 1) := by decide +kernel
theorem dX6_greatestDivisor_20 : decode cX6_greatestDivisor 20 = .ok (.ifCond .eq 24, 3) := by decide +kernel
theorem dX6_greatestDivisor_23 : decode cX6_greatestDivisor 23 = .ok (.lload 4, 2) := by decide +kernel
theorem dX6_greatestDivisor_25 : decode cX6_greatestDivisor 25 = .ok (.lload 6, 2) := by decide +kernel
theorem dX6_greatestDivisor_27 : decode cX6_greatestDivisor 27 = .ok (.lrem, 1) := by decide +kernel
theorem dX6_greatestDivisor_28 : decode cX6_greatestDivisor 28 = .ok (.lstore 9, 2) := by decide +kernel
theorem dX6_greatestDivisor_30 : decode cX6_greatestDivisor 30 = .ok (.lload 6, 2) := by decide +kernel
theorem dX6_greatestDivisor_32 : decode cX6_greatestDivisor 32 = .ok (.lstore 4, 2) := by decide +kernel
theorem dX6_greatestDivisor_34 : decode cX6_greatestDivisor 34 = .ok (.lload 9, 2) := by decide +kernel
theorem dX6_greatestDivisor_36 : decode cX6_greatestDivisor 36 = .ok (.lstore 6, 2) := by decide +kernel
theorem dX6_greatestDivisor_38 : decode cX6_greatestDivisor 38 = .ok (.iinc 8 1, 3) := by decide +kernel
theorem dX6_greatestDivisor_41 : decode cX6_greatestDivisor 41 = .ok (.goto (-32), 3) := by decide +kernel
theorem dX6_greatestDivisor_44 : decode cX6_greatestDivisor 44 = .ok (.lload 4, 2) := by decide +kernel
theorem dX6_greatestDivisor_46 : decode cX6_greatestDivisor 46 = .ok (.lreturn, 1) := by decide +kernel
set_option maxRecDepth 20000 in
theorem ggX7_init_X7_begins : GoodIn wsX7_init wsX7_begins := goodIn_r _ [24, 10, 25, 6, 26, 27, 28, 23, 29, 30, 31, 32, 33, 34, 35, 36, 37, 38, 39, 40, 41, 42, 43, 44, 45, 46, 47, 48, 49, 50, 51, 52, 53] (by decide +kernel) (by decide +kernel)
set_option maxRecDepth 20000 in
theorem gX7_init_X7_begins : GoodIn wsX7_init (wsV RX7 51 RX7 yX7_begins wsX7_begins) := goodIn_app (goodIn_of _ (by decide +kernel)) ggX7_init_X7_begins
theorem dX7_init_0 : decode cX7_init 0 = .ok (.aload_n 0, 1) := by decide +kernel
theorem dX7_init_1 : decode cX7_init 1 = .ok (.invokespecial 1, 3) := by decide +kernel
theorem dX7_init_4 : decode cX7_init 4 = .ok (.aload_n 0, 1) := by decide +kernel
theorem dX7_init_5 : decode cX7_init 5 = .ok (.sipush 300, 3) := by decide +kernel
theorem dX7_init_8 : decode cX7_init 8 = .ok (.newarray .int, 2) := by decide +kernel
theorem dX7_init_10 : decode cX7_init 10 = .ok (.putfield 7, 3) := by decide +kernel
theorem dX7_init_13 : decode cX7_init 13 = .ok (.aload_n 0, 1) := by decide +kernel
theorem dX7_init_14 : decode cX7_init 14 = .ok (.bipush 48, 2) := by decide +kernel
theorem dX7_init_16 : decode cX7_init 16 = .ok (.newarray .int, 2) := by decide +kernel
theorem dX7_init_18 : decode cX7_init 18 = .ok (.putfield 13, 3) := by decide +kernel
theorem dX7_init_21 : decode cX7_init 21 = .ok (.aload_n 0, 1) := by decide +kernel
theorem dX7_init_22 : decode cX7_init 22 = .ok (.bipush 12, 2) := by decide +kernel
theorem dX7_init_24 : decode cX7_init 24 = .ok (.newarray .int, 2) := by decide +kernel
theorem dX7_init_26 : decode cX7_init 26 = .ok (.putfield 16, 3) := by decide +kernel
theorem dX7_init_29 : decode cX7_init 29 = .ok (.aload_n 0, 1) := by decide +kernel
theorem dX7_init_30 : decode cX7_init 30 = .ok (.bipush 12, 2) := by decide +kernel
theorem dX7_init_32 : decode cX7_init 32 = .ok (.newarray .int, 2) := by decide +kernel
theorem dX7_init_34 : decode cX7_init 34 = .ok (.putfield 19, 3) := by decide +kernel
theorem dX7_init_37 : decode cX7_init 37 = .ok (.aload_n 0, 1) := by decide +kernel
theorem dX7_init_38 : decode cX7_init 38 = .ok (.bipush 6, 2) := by decide +kernel
theorem dX7_init_40 : decode cX7_init 40 = .ok (.newarray .int, 2) := by decide +kernel
theorem dX7_init_42 : decode cX7_init 42 = .ok (.putfield 22, 3) := by decide +kernel
theorem dX7_init_45 : decode cX7_init 45 = .ok (.aload_n 0, 1) := by decide +kernel
theorem dX7_init_46 : decode cX7_init 46 = .ok (.bipush 67, 2) := by decide +kernel
theorem dX7_init_48 : decode cX7_init 48 = .ok (.newarray .int, 2) := by decide +kernel
theorem dX7_init_50 : decode cX7_init 50 = .ok (.putfield 25, 3) := by decide +kernel
theorem dX7_init_53 : decode cX7_init 53 = .ok (.aload_n 0, 1) := by decide +kernel
theorem dX7_init_54 : decode cX7_init 54 = .ok (.sipush 134, 3) := by decide +kernel
theorem dX7_init_57 : decode cX7_init 57 = .ok (.newarray .int, 2) := by decide +kernel
theorem dX7_init_59 : decode cX7_init 59 = .ok (.putfield 28, 3) := by decide +kernel
theorem dX7_init_62 : decode cX7_init 62 = .ok (.aload_n 0, 1) := by decide +kernel
theorem dX7_init_63 : decode cX7_init 63 = .ok (.iconst 2, 1) := by decide +kernel
theorem dX7_init_64 : decode cX7_init 64 = .ok (.newarray .boolean, 2) := by decide +kernel
theorem dX7_init_66 : decode cX7_init 66 = .ok (.putfield 31, 3) := by decide +kernel
theorem dX7_init_69 : decode cX7_init 69 = .ok (.aload_n 0, 1) := by decide +kernel
theorem dX7_init_70 : decode cX7_init 70 = .ok (.sipush 4824, 3) := by decide +kernel
theorem dX7_init_73 : decode cX7_init 73 = .ok (.newarray .int, 2) := by decide +kernel
theorem dX7_init_75 : decode cX7_init 75 = .ok (.putfield 35, 3) := by decide +kernel
theorem dX7_init_78 : decode cX7_init 78 = .ok (.aload_n 0, 1) := by decide +kernel
theorem dX7_init_79 : decode cX7_init 79 = .ok (.bipush 16, 2) := by decide +kernel
theorem dX7_init_81 : decode cX7_init 81 = .ok (.newarray .long, 2) := by decide +kernel
theorem dX7_init_83 : decode cX7_init 83 = .ok (.putfield 38, 3) := by decide +kernel
theorem dX7_init_86 : decode cX7_init 86 = .ok (.aload_n 0, 1) := by decide +kernel
theorem dX7_init_87 : decode cX7_init 87 = .ok (.bipush 16, 2) := by decide +kernel
theorem dX7_init_89 : decode cX7_init 89 = .ok (.newarray .long, 2) := by decide +kernel
theorem dX7_init_91 : decode cX7_init 91 = .ok (.putfield 42, 3) := by decide +kernel
theorem dX7_init_94 : decode cX7_init 94 = .ok (.aload_n 0, 1) := by decide +kernel
theorem dX7_init_95 : decode cX7_init 95 = .ok (.bipush 6, 2) := by decide +kernel
theorem dX7_init_97 : decode cX7_init 97 = .ok (.newarray .int, 2) := by decide +kernel
theorem dX7_init_99 : decode cX7_init 99 = .ok (.putfield 45, 3) := by decide +kernel
theorem dX7_init_102 : decode cX7_init 102 = .ok (.aload_n 0, 1) := by decide +kernel
theorem dX7_init_103 : decode cX7_init 103 = .ok (.bipush 6, 2) := by decide +kernel
theorem dX7_init_105 : decode cX7_init 105 = .ok (.newarray .int, 2) := by decide +kernel
theorem dX7_init_107 : decode cX7_init 107 = .ok (.putfield 48, 3) := by decide +kernel
theorem dX7_init_110 : decode cX7_init 110 = .ok (.aload_n 0, 1) := by decide +kernel
theorem dX7_init_111 : decode cX7_init 111 = .ok (.getfield 25, 3) := by decide +kernel
theorem dX7_init_114 : decode cX7_init 114 = .ok (.bipush 66, 2) := by decide +kernel
theorem dX7_init_116 : decode cX7_init 116 = .ok (.iconst 1, 1) := by decide +kernel
theorem dX7_init_117 : decode cX7_init 117 = .ok (.iastore, 1) := by decide +kernel
theorem dX7_init_118 : decode cX7_init 118 = .ok (.aload_n 0, 1) := by decide +kernel
theorem dX7_init_119 : decode cX7_init 119 = .ok (.getfield 22, 3) := by decide +kernel
theorem dX7_init_122 : decode cX7_init 122 = .ok (.iconst 2, 1) := by decide +kernel
theorem dX7_init_123 : decode cX7_init 123 = .ok (.iconst 1, 1) := by decide +kernel
theorem dX7_init_124 : decode cX7_init 124 = .ok (.iastore, 1) := by decide +kernel
theorem dX7_init_125 : decode cX7_init 125 = .ok (.aload_n 0, 1) := by decide +kernel
theorem dX7_init_126 : decode cX7_init 126 = .ok (.invokevirtual 51, 3) := by decide +kernel
theorem dX7_init_129 : decode cX7_init 129 = .ok (.return_, 1) := by decide +kernel
theorem dX7_in_0 : decode cX7_in 0 = .ok (.iload_n 0, 1) := by decide +kernel
theorem dX7_in_1 : decode cX7_in 1 = .ok (.iload_n 1, 1) := by decide +kernel
theorem dX7_in_2 : decode cX7_in 2 = .ok (.if_icmp .lt 12, 3) := by decide +kernel
theorem dX7_in_5 : decode cX7_in 5 = .ok (.iload_n 0, 1) := by decide +kernel
theorem dX7_in_6 : decode cX7_in 6 = .ok (.iload_n 2, 1) := by decide +kernel
theorem dX7_in_7 : decode cX7_in 7 = .ok (.if_icmp .gt 7, 3) := by decide +kernel
theorem dX7_in_10 : decode cX7_in 10 = .ok (.iconst 1, 1) := by decide +kernel
theorem dX7_in_11 : decode cX7_in 11 = .ok (.goto 4, 3) := by decide +kernel
theorem dX7_in_14 : decode cX7_in 14 = .ok (.iconst 0, 1) := by decide +kernel
theorem dX7_in_15 : decode cX7_in 15 = .ok (.ireturn, 1) := by decide +kernel
set_option maxRecDepth 20000 in
theorem ggX7_type_X7_in : GoodIn wsX7_type wsX7_in := goodIn_r _ [8] (by decide +kernel) (by decide +kernel)
set_option maxRecDepth 20000 in
theorem gX7_type_X7_in : GoodIn wsX7_type (va_wsS RX7 58 yX7_in wsX7_in) := goodIn_app (goodIn_of _ (by decide +kernel)) ggX7_type_X7_in
theorem dX7_type_0 : decode cX7_type 0 = .ok (.aload_n 0, 1) := by decide +kernel
theorem dX7_type_1 : decode cX7_type 1 = .ok (.iconst 0, 1) := by decide +kernel
theorem dX7_type_2 : decode cX7_type 2 = .ok (.putfield 54, 3) := by decide +kernel
theorem dX7_type_5 : decode cX7_type 5 = .ok (.iload_n 3, 1) := by decide +kernel
theorem dX7_type_6 : decode cX7_type 6 = .ok (.iconst 1, 1) := by decide +kernel
theorem dX7_type_7 : decode cX7_type 7 = .ok (.bipush 8, 2) := by decide +kernel
theorem dX7_type_9 : decode cX7_type 9 = .ok (.invokestatic 58, 3) := by decide +kernel
theorem dX7_type_12 : decode cX7_type 12 = .ok (.ifCond .ne 5, 3) := by decide +kernel
theorem dX7_type_15 : decode cX7_type 15 = .ok (.iconst (-1), 1) := by decide +kernel
theorem dX7_type_16 : decode cX7_type 16 = .ok (.ireturn, 1) := by decide +kernel
theorem dX7_type_17 : decode cX7_type 17 = .ok (.aload_n 0, 1) := by decide +kernel
theorem dX7_type_18 : decode cX7_type 18 = .ok (.getfield 62, 3) := by decide +kernel
theorem dX7_type_21 : decode cX7_type 21 = .ok (.iload_n 3, 1) := by decide +kernel
theorem dX7_type_22 : decode cX7_type 22 = .ok (.iadd, 1) := by decide +kernel
theorem dX7_type_23 : decode cX7_type 23 = .ok (.sipush 300, 3) := by decide +kernel
theorem dX7_type_26 : decode cX7_type 26 = .ok (.if_icmp .le 6, 3) := by decide +kernel
theorem dX7_type_29 : decode cX7_type 29 = .ok (.bipush (-3), 2) := by decide +kernel
theorem dX7_type_31 : decode cX7_type 31 = .ok (.ireturn, 1) := by decide +kernel
theorem dX7_type_32 : decode cX7_type 32 = .ok (.iload_n 3, 1) := by decide +kernel
theorem dX7_type_33 : decode cX7_type 33 = .ok (.iconst 1, 1) := by decide +kernel
theorem dX7_type_34 : decode cX7_type 34 = .ok (.isub, 1) := by decide +kernel
theorem dX7_type_35 : decode cX7_type 35 = .ok (.istore 4, 2) := by decide +kernel
theorem dX7_type_37 : decode cX7_type 37 = .ok (.iload 4, 2) := by decide +kernel
theorem dX7_type_39 : decode cX7_type 39 = .ok (.ifCond .lt 40, 3) := by decide +kernel
theorem dX7_type_42 : decode cX7_type 42 = .ok (.aload_n 0, 1) := by decide +kernel
theorem dX7_type_43 : decode cX7_type 43 = .ok (.getfield 7, 3) := by decide +kernel
theorem dX7_type_46 : decode cX7_type 46 = .ok (.aload_n 0, 1) := by decide +kernel
theorem dX7_type_47 : decode cX7_type 47 = .ok (.getfield 62, 3) := by decide +kernel
theorem dX7_type_50 : decode cX7_type 50 = .ok (.lload_n 1, 1) := by decide +kernel
theorem dX7_type_51 : decode cX7_type 51 = .ok (.bipush 8, 2) := by decide +kernel
theorem dX7_type_53 : decode cX7_type 53 = .ok (.iload 4, 2) := by decide +kernel
theorem dX7_type_55 : decode cX7_type 55 = .ok (.imul, 1) := by decide +kernel
theorem dX7_type_56 : decode cX7_type 56 = .ok (.lshr, 1) := by decide +kernel
theorem dX7_type_57 : decode cX7_type 57 = .ok (.ldc2_w 65, 3) := by decide +kernel
theorem dX7_type_60 : decode cX7_type 60 = .ok (.land, 1) := by decide +kernel
theorem dX7_type_61 : decode cX7_type 61 = .ok (.l2i, 1) := by decide +kernel
theorem dX7_type_62 : decode cX7_type 62 = .ok (.iastore, 1) := by decide +kernel
theorem dX7_type_63 : decode cX7_type 63 = .ok (.aload_n 0, 1) := by decide +kernel
theorem dX7_type_64 : decode cX7_type 64 = .ok (.dup, 1) := by decide +kernel
theorem dX7_type_65 : decode cX7_type 65 = .ok (.getfield 62, 3) := by decide +kernel
theorem dX7_type_68 : decode cX7_type 68 = .ok (.iconst 1, 1) := by decide +kernel
theorem dX7_type_69 : decode cX7_type 69 = .ok (.iadd, 1) := by decide +kernel
theorem dX7_type_70 : decode cX7_type 70 = .ok (.putfield 62, 3) := by decide +kernel
theorem dX7_type_73 : decode cX7_type 73 = .ok (.iinc 4 (-1), 3) := by decide +kernel
theorem dX7_type_76 : decode cX7_type 76 = .ok (.goto (-39), 3) := by decide +kernel
theorem dX7_type_79 : decode cX7_type 79 = .ok (.aload_n 0, 1) := by decide +kernel
theorem dX7_type_80 : decode cX7_type 80 = .ok (.getfield 62, 3) := by decide +kernel
theorem dX7_type_83 : decode cX7_type 83 = .ok (.ireturn, 1) := by decide +kernel
theorem dX7_clear_0 : decode cX7_clear 0 = .ok (.aload_n 0, 1) := by decide +kernel
theorem dX7_clear_1 : decode cX7_clear 1 = .ok (.iconst 0, 1) := by decide +kernel
theorem dX7_clear_2 : decode cX7_clear 2 = .ok (.putfield 54, 3) := by decide +kernel
theorem dX7_clear_5 : decode cX7_clear 5 = .ok (.aload_n 0, 1) := by decide +kernel
theorem dX7_clear_6 : decode cX7_clear 6 = .ok (.getfield 62, 3) := by decide +kernel
theorem dX7_clear_9 : decode cX7_clear 9 = .ok (.istore_n 1, 1) := by decide +kernel
theorem dX7_clear_10 : decode cX7_clear 10 = .ok (.aload_n 0, 1) := by decide +kernel
theorem dX7_clear_11 : decode cX7_clear 11 = .ok (.iconst 0, 1) := by decide +kernel
theorem dX7_clear_12 : decode cX7_clear 12 = .ok (.putfield 62, 3) := by decide +kernel
theorem dX7_clear_15 : decode cX7_clear 15 = .ok (.iload_n 1, 1) := by decide +kernel
theorem dX7_clear_16 : decode cX7_clear 16 = .ok (.ireturn, 1) := by decide +kernel
theorem dX7_byteAt_0 : decode cX7_byteAt 0 = .ok (.iload_n 1, 1) := by decide +kernel
theorem dX7_byteAt_1 : decode cX7_byteAt 1 = .ok (.aload_n 0, 1) := by decide +kernel
theorem dX7_byteAt_2 : decode cX7_byteAt 2 = .ok (.getfield 62, 3) := by decide +kernel
theorem dX7_byteAt_5 : decode cX7_byteAt 5 = .ok (.if_icmp .ge 12, 3) := by decide +kernel
theorem dX7_byteAt_8 : decode cX7_byteAt 8 = .ok (.aload_n 0, 1) := by decide +kernel
theorem dX7_byteAt_9 : decode cX7_byteAt 9 = .ok (.getfield 7, 3) := by decide +kernel
theorem dX7_byteAt_12 : decode cX7_byteAt 12 = .ok (.iload_n 1, 1) := by decide +kernel
theorem dX7_byteAt_13 : decode cX7_byteAt 13 = .ok (.iaload, 1) := by decide +kernel
theorem dX7_byteAt_14 : decode cX7_byteAt 14 = .ok (.goto 4, 3) := by decide +kernel
theorem dX7_byteAt_17 : decode cX7_byteAt 17 = .ok (.iconst (-1), 1) := by decide +kernel
theorem dX7_byteAt_18 : decode cX7_byteAt 18 = .ok (.ireturn, 1) := by decide +kernel
theorem dX7_add_0 : decode cX7_add 0 = .ok (.iload_n 2, 1) := by decide +kernel
theorem dX7_add_1 : decode cX7_add 1 = .ok (.ifCond .ne 7, 3) := by decide +kernel
theorem dX7_add_4 : decode cX7_add 4 = .ok (.lload_n 0, 1) := by decide +kernel
theorem dX7_add_5 : decode cX7_add 5 = .ok (.goto 11, 3) := by decide +kernel
theorem dX7_add_8 : decode cX7_add 8 = .ok (.ldc2_w 67, 3) := by decide +kernel
theorem dX7_add_11 : decode cX7_add 11 = .ok (.lload_n 0, 1) := by decide +kernel
theorem dX7_add_12 : decode cX7_add 12 = .ok (.lmul, 1) := by decide +kernel
theorem dX7_add_13 : decode cX7_add 13 = .ok (.iload_n 2, 1) := by decide +kernel
theorem dX7_add_14 : decode cX7_add 14 = .ok (.i2l, 1) := by decide +kernel
theorem dX7_add_15 : decode cX7_add 15 = .ok (.ladd, 1) := by decide +kernel
theorem dX7_add_16 : decode cX7_add 16 = .ok (.lreturn, 1) := by decide +kernel
set_option maxRecDepth 20000 in
theorem ggX7_named_X7_add : GoodIn wsX7_named wsX7_add := goodIn_r _ [4, 5] (by decide +kernel) (by decide +kernel)
set_option maxRecDepth 20000 in
theorem gX7_named_X7_add : GoodIn wsX7_named (va_wsS RX7 69 yX7_add wsX7_add) := goodIn_app (goodIn_of _ (by decide +kernel)) ggX7_named_X7_add
theorem dX7_named_0 : decode cX7_named 0 = .ok (.lconst 0, 1) := by decide +kernel
theorem dX7_named_1 : decode cX7_named 1 = .ok (.iload_n 0, 1) := by decide +kernel
theorem dX7_named_2 : decode cX7_named 2 = .ok (.invokestatic 69, 3) := by decide +kernel
theorem dX7_named_5 : decode cX7_named 5 = .ok (.iload_n 1, 1) := by decide +kernel
theorem dX7_named_6 : decode cX7_named 6 = .ok (.invokestatic 69, 3) := by decide +kernel
theorem dX7_named_9 : decode cX7_named 9 = .ok (.iload_n 2, 1) := by decide +kernel
theorem dX7_named_10 : decode cX7_named 10 = .ok (.invokestatic 69, 3) := by decide +kernel
theorem dX7_named_13 : decode cX7_named 13 = .ok (.iload_n 3, 1) := by decide +kernel
theorem dX7_named_14 : decode cX7_named 14 = .ok (.invokestatic 69, 3) := by decide +kernel
theorem dX7_named_17 : decode cX7_named 17 = .ok (.iload 4, 2) := by decide +kernel
theorem dX7_named_19 : decode cX7_named 19 = .ok (.invokestatic 69, 3) := by decide +kernel
theorem dX7_named_22 : decode cX7_named 22 = .ok (.iload 5, 2) := by decide +kernel
theorem dX7_named_24 : decode cX7_named 24 = .ok (.invokestatic 69, 3) := by decide +kernel
theorem dX7_named_27 : decode cX7_named 27 = .ok (.lreturn, 1) := by decide +kernel
set_option maxRecDepth 20000 in
theorem ggX7_wordOf_X7_named : GoodIn wsX7_wordOf wsX7_named := goodIn_r _ [4, 5, 6, 3, 7, 8] (by decide +kernel) (by decide +kernel)
set_option maxRecDepth 20000 in
theorem gX7_wordOf_X7_named : GoodIn wsX7_wordOf (va_wsS RX7 73 yX7_named wsX7_named) := goodIn_app (goodIn_of _ (by decide +kernel)) ggX7_wordOf_X7_named
theorem dX7_wordOf_0 : decode cX7_wordOf 0 = .ok (.lload_n 0, 1) := by decide +kernel
theorem dX7_wordOf_1 : decode cX7_wordOf 1 = .ok (.bipush 104, 2) := by decide +kernel
theorem dX7_wordOf_3 : decode cX7_wordOf 3 = .ok (.bipush 111, 2) := by decide +kernel
theorem dX7_wordOf_5 : decode cX7_wordOf 5 = .ok (.bipush 117, 2) := by decide +kernel
theorem dX7_wordOf_7 : decode cX7_wordOf 7 = .ok (.bipush 115, 2) := by decide +kernel
theorem dX7_wordOf_9 : decode cX7_wordOf 9 = .ok (.bipush 101, 2) := by decide +kernel
theorem dX7_wordOf_11 : decode cX7_wordOf 11 = .ok (.iconst 0, 1) := by decide +kernel
theorem dX7_wordOf_12 : decode cX7_wordOf 12 = .ok (.invokestatic 73, 3) := by decide +kernel
theorem dX7_wordOf_15 : decode cX7_wordOf 15 = .ok (.lcmp, 1) := by decide +kernel
theorem dX7_wordOf_16 : decode cX7_wordOf 16 = .ok (.ifCond .ne 7, 3) := by decide +kernel
theorem dX7_wordOf_19 : decode cX7_wordOf 19 = .ok (.iconst 0, 1) := by decide +kernel
theorem dX7_wordOf_20 : decode cX7_wordOf 20 = .ok (.goto 47, 3) := by decide +kernel
theorem dX7_wordOf_23 : decode cX7_wordOf 23 = .ok (.lload_n 0, 1) := by decide +kernel
theorem dX7_wordOf_24 : decode cX7_wordOf 24 = .ok (.bipush 98, 2) := by decide +kernel
theorem dX7_wordOf_26 : decode cX7_wordOf 26 = .ok (.bipush 97, 2) := by decide +kernel
theorem dX7_wordOf_28 : decode cX7_wordOf 28 = .ok (.bipush 114, 2) := by decide +kernel
theorem dX7_wordOf_30 : decode cX7_wordOf 30 = .ok (.iconst 0, 1) := by decide +kernel
theorem dX7_wordOf_31 : decode cX7_wordOf 31 = .ok (.iconst 0, 1) := by decide +kernel
theorem dX7_wordOf_32 : decode cX7_wordOf 32 = .ok (.iconst 0, 1) := by decide +kernel
theorem dX7_wordOf_33 : decode cX7_wordOf 33 = .ok (.invokestatic 73, 3) := by decide +kernel
theorem dX7_wordOf_36 : decode cX7_wordOf 36 = .ok (.lcmp, 1) := by decide +kernel
theorem dX7_wordOf_37 : decode cX7_wordOf 37 = .ok (.ifCond .ne 7, 3) := by decide +kernel
theorem dX7_wordOf_40 : decode cX7_wordOf 40 = .ok (.iconst 1, 1) := by decide +kernel
theorem dX7_wordOf_41 : decode cX7_wordOf 41 = .ok (.goto 26, 3) := by decide +kernel
theorem dX7_wordOf_44 : decode cX7_wordOf 44 = .ok (.lload_n 0, 1) := by decide +kernel
theorem dX7_wordOf_45 : decode cX7_wordOf 45 = .ok (.bipush 108, 2) := by decide +kernel
theorem dX7_wordOf_47 : decode cX7_wordOf 47 = .ok (.bipush 97, 2) := by decide +kernel
theorem dX7_wordOf_49 : decode cX7_wordOf 49 = .ok (.bipush 119, 2) := by decide +kernel
theorem dX7_wordOf_51 : decode cX7_wordOf 51 = .ok (.iconst 0, 1) := by decide +kernel
theorem dX7_wordOf_52 : decode cX7_wordOf 52 = .ok (.iconst 0, 1) := by decide +kernel
theorem dX7_wordOf_53 : decode cX7_wordOf 53 = .ok (.iconst 0, 1) := by decide +kernel
theorem dX7_wordOf_54 : decode cX7_wordOf 54 = .ok (.invokestatic 73, 3) := by decide +kernel
theorem dX7_wordOf_57 : decode cX7_wordOf 57 = .ok (.lcmp, 1) := by decide +kernel
theorem dX7_wordOf_58 : decode cX7_wordOf 58 = .ok (.ifCond .ne 7, 3) := by decide +kernel
theorem dX7_wordOf_61 : decode cX7_wordOf 61 = .ok (.iconst 2, 1) := by decide +kernel
theorem dX7_wordOf_62 : decode cX7_wordOf 62 = .ok (.goto 5, 3) := by decide +kernel
theorem dX7_wordOf_65 : decode cX7_wordOf 65 = .ok (.bipush (-9), 2) := by decide +kernel
theorem dX7_wordOf_67 : decode cX7_wordOf 67 = .ok (.istore_n 2, 1) := by decide +kernel
theorem dX7_wordOf_68 : decode cX7_wordOf 68 = .ok (.iload_n 2, 1) := by decide +kernel
theorem dX7_wordOf_69 : decode cX7_wordOf 69 = .ok (.bipush (-9), 2) := by decide +kernel
theorem dX7_wordOf_71 : decode cX7_wordOf 71 = .ok (.if_icmp .eq 7, 3) := by decide +kernel
theorem dX7_wordOf_74 : decode cX7_wordOf 74 = .ok (.iload_n 2, 1) := by decide +kernel
theorem dX7_wordOf_75 : decode cX7_wordOf 75 = .ok (.goto 52, 3) := by decide +kernel
theorem dX7_wordOf_78 : decode cX7_wordOf 78 = .ok (.lload_n 0, 1) := by decide +kernel
theorem dX7_wordOf_79 : decode cX7_wordOf 79 = .ok (.bipush 112, 2) := by decide +kernel
theorem dX7_wordOf_81 : decode cX7_wordOf 81 = .ok (.bipush 114, 2) := by decide +kernel
theorem dX7_wordOf_83 : decode cX7_wordOf 83 = .ok (.bipush 105, 2) := by decide +kernel
theorem dX7_wordOf_85 : decode cX7_wordOf 85 = .ok (.bipush 100, 2) := by decide +kernel
theorem dX7_wordOf_87 : decode cX7_wordOf 87 = .ok (.bipush 101, 2) := by decide +kernel
theorem dX7_wordOf_89 : decode cX7_wordOf 89 = .ok (.iconst 0, 1) := by decide +kernel
theorem dX7_wordOf_90 : decode cX7_wordOf 90 = .ok (.invokestatic 73, 3) := by decide +kernel
theorem dX7_wordOf_93 : decode cX7_wordOf 93 = .ok (.lcmp, 1) := by decide +kernel
theorem dX7_wordOf_94 : decode cX7_wordOf 94 = .ok (.ifCond .ne 7, 3) := by decide +kernel
theorem dX7_wordOf_97 : decode cX7_wordOf 97 = .ok (.iconst 3, 1) := by decide +kernel
theorem dX7_wordOf_98 : decode cX7_wordOf 98 = .ok (.goto 29, 3) := by decide +kernel
theorem dX7_wordOf_101 : decode cX7_wordOf 101 = .ok (.lload_n 0, 1) := by decide +kernel
theorem dX7_wordOf_102 : decode cX7_wordOf 102 = .ok (.bipush 109, 2) := by decide +kernel
theorem dX7_wordOf_104 : decode cX7_wordOf 104 = .ok (.bipush 101, 2) := by decide +kernel
theorem dX7_wordOf_106 : decode cX7_wordOf 106 = .ok (.bipush 109, 2) := by decide +kernel
theorem dX7_wordOf_108 : decode cX7_wordOf 108 = .ok (.bipush 111, 2) := by decide +kernel
theorem dX7_wordOf_110 : decode cX7_wordOf 110 = .ok (.bipush 114, 2) := by decide +kernel
theorem dX7_wordOf_112 : decode cX7_wordOf 112 = .ok (.bipush 121, 2) := by decide +kernel
theorem dX7_wordOf_114 : decode cX7_wordOf 114 = .ok (.invokestatic 73, 3) := by decide +kernel
theorem dX7_wordOf_117 : decode cX7_wordOf 117 = .ok (.lcmp, 1) := by decide +kernel
theorem dX7_wordOf_118 : decode cX7_wordOf 118 = .ok (.ifCond .ne 7, 3) := by decide +kernel
theorem dX7_wordOf_121 : decode cX7_wordOf 121 = .ok (.iconst 4, 1) := by decide +kernel
theorem dX7_wordOf_122 : decode cX7_wordOf 122 = .ok (.goto 5, 3) := by decide +kernel
theorem dX7_wordOf_125 : decode cX7_wordOf 125 = .ok (.bipush (-9), 2) := by decide +kernel
theorem dX7_wordOf_127 : decode cX7_wordOf 127 = .ok (.ireturn, 1) := by decide +kernel
set_option maxRecDepth 20000 in
theorem ggX7_advances_X7_byteAt : GoodIn wsX7_advances wsX7_byteAt := goodIn_r _ [9, 10, 11, 25, 26, 27, 28, 29, 30, 31, 32, 33, 34, 35, 36, 37, 38, 39, 40, 41, 42, 43, 44, 45, 46, 47, 48] (by decide +kernel) (by decide +kernel)
set_option maxRecDepth 20000 in
theorem gX7_advances_X7_byteAt : GoodIn wsX7_advances (wsV RX7 80 RX7 yX7_byteAt wsX7_byteAt) := goodIn_app (goodIn_of _ (by decide +kernel)) ggX7_advances_X7_byteAt
set_option maxRecDepth 20000 in
theorem ggX7_advances_X7_in : GoodIn wsX7_advances wsX7_in := goodIn_r _ [14] (by decide +kernel) (by decide +kernel)
set_option maxRecDepth 20000 in
theorem gX7_advances_X7_in : GoodIn wsX7_advances (va_wsS RX7 58 yX7_in wsX7_in) := goodIn_app (goodIn_of _ (by decide +kernel)) ggX7_advances_X7_in
set_option maxRecDepth 20000 in
theorem ggX7_advances_X7_add : GoodIn wsX7_advances wsX7_add := goodIn_r _ [17, 18] (by decide +kernel) (by decide +kernel)
set_option maxRecDepth 20000 in
theorem gX7_advances_X7_add : GoodIn wsX7_advances (va_wsS RX7 69 yX7_add wsX7_add) := goodIn_app (goodIn_of _ (by decide +kernel)) ggX7_advances_X7_add
set_option maxRecDepth 20000 in
theorem ggX7_advances_X7_wordOf : GoodIn wsX7_advances wsX7_wordOf := goodIn_r _ [21, 22, 23, 8, 24, 15, 16, 17, 18] (by decide +kernel) (by decide +kernel)
set_option maxRecDepth 20000 in
theorem gX7_advances_X7_wordOf : GoodIn wsX7_advances (va_wsS RX7 90 yX7_wordOf wsX7_wordOf) := goodIn_app (goodIn_of _ (by decide +kernel)) ggX7_advances_X7_wordOf
theorem dX7_advances_0 : decode cX7_advances 0 = .ok (.aload_n 0, 1) := by decide +kernel
theorem dX7_advances_1 : decode cX7_advances 1 = .ok (.aload_n 0, 1) := by decide +kernel
theorem dX7_advances_2 : decode cX7_advances 2 = .ok (.getfield 77, 3) := by decide +kernel
theorem dX7_advances_5 : decode cX7_advances 5 = .ok (.invokevirtual 80, 3) := by decide +kernel
theorem dX7_advances_8 : decode cX7_advances 8 = .ok (.bipush 32, 2) := by decide +kernel
theorem dX7_advances_10 : decode cX7_advances 10 = .ok (.if_icmp .ne 16, 3) := by decide +kernel
theorem dX7_advances_13 : decode cX7_advances 13 = .ok (.aload_n 0, 1) := by decide +kernel
theorem dX7_advances_14 : decode cX7_advances 14 = .ok (.dup, 1) := by decide +kernel
theorem dX7_advances_15 : decode cX7_advances 15 = .ok (.getfield 77, 3) := by decide +kernel
theorem dX7_advances_18 : decode cX7_advances 18 = .ok (.iconst 1, 1) := by decide +kernel
theorem dX7_advances_19 : decode cX7_advances 19 = .ok (.iadd, 1) := by decide +kernel
theorem dX7_advances_20 : decode cX7_advances 20 = .ok (.putfield 77, 3) := by decide +kernel
theorem dX7_advances_23 : decode cX7_advances 23 = .ok (.goto (-23), 3) := by decide +kernel
theorem dX7_advances_26 : decode cX7_advances 26 = .ok (.aload_n 0, 1) := by decide +kernel
theorem dX7_advances_27 : decode cX7_advances 27 = .ok (.aload_n 0, 1) := by decide +kernel
theorem dX7_advances_28 : decode cX7_advances 28 = .ok (.getfield 77, 3) := by decide +kernel
theorem dX7_advances_31 : decode cX7_advances 31 = .ok (.putfield 84, 3) := by decide +kernel
theorem dX7_advances_34 : decode cX7_advances 34 = .ok (.aload_n 0, 1) := by decide +kernel
theorem dX7_advances_35 : decode cX7_advances 35 = .ok (.aload_n 0, 1) := by decide +kernel
theorem dX7_advances_36 : decode cX7_advances 36 = .ok (.getfield 77, 3) := by decide +kernel
theorem dX7_advances_39 : decode cX7_advances 39 = .ok (.invokevirtual 80, 3) := by decide +kernel
theorem dX7_advances_42 : decode cX7_advances 42 = .ok (.istore_n 1, 1) := by decide +kernel
theorem dX7_advances_43 : decode cX7_advances 43 = .ok (.iload_n 1, 1) := by decide +kernel
theorem dX7_advances_44 : decode cX7_advances 44 = .ok (.ifCond .ge 11, 3) := by decide +kernel
theorem dX7_advances_47 : decode cX7_advances 47 = .ok (.aload_n 0, 1) := by decide +kernel
theorem dX7_advances_48 : decode cX7_advances 48 = .ok (.iconst 0, 1) := by decide +kernel
theorem dX7_advances_49 : decode cX7_advances 49 = .ok (.putfield 87, 3) := by decide +kernel
theorem dX7_advances_52 : decode cX7_advances 52 = .ok (.goto 258, 3) := by decide +kernel
theorem dX7_advances_55 : decode cX7_advances 55 = .ok (.iload_n 1, 1) := by decide +kernel
theorem dX7_advances_56 : decode cX7_advances 56 = .ok (.bipush 97, 2) := by decide +kernel
theorem dX7_advances_58 : decode cX7_advances 58 = .ok (.bipush 122, 2) := by decide +kernel
theorem dX7_advances_60 : decode cX7_advances 60 = .ok (.invokestatic 58, 3) := by decide +kernel
theorem dX7_advances_63 : decode cX7_advances 63 = .ok (.ifCond .eq 96, 3) := by decide +kernel
theorem dX7_advances_66 : decode cX7_advances 66 = .ok (.lconst 0, 1) := by decide +kernel
theorem dX7_advances_67 : decode cX7_advances 67 = .ok (.lstore_n 2, 1) := by decide +kernel
theorem dX7_advances_68 : decode cX7_advances 68 = .ok (.aload_n 0, 1) := by decide +kernel
theorem dX7_advances_69 : decode cX7_advances 69 = .ok (.aload_n 0, 1) := by decide +kernel
theorem dX7_advances_70 : decode cX7_advances 70 = .ok (.getfield 77, 3) := by decide +kernel
theorem dX7_advances_73 : decode cX7_advances 73 = .ok (.invokevirtual 80, 3) := by decide +kernel
theorem dX7_advances_76 : decode cX7_advances 76 = .ok (.bipush 97, 2) := by decide +kernel
theorem dX7_advances_78 : decode cX7_advances 78 = .ok (.bipush 122, 2) := by decide +kernel
theorem dX7_advances_80 : decode cX7_advances 80 = .ok (.invokestatic 58, 3) := by decide +kernel
theorem dX7_advances_83 : decode cX7_advances 83 = .ok (.ifCond .eq 47, 3) := by decide +kernel
theorem dX7_advances_86 : decode cX7_advances 86 = .ok (.aload_n 0, 1) := by decide +kernel
theorem dX7_advances_87 : decode cX7_advances 87 = .ok (.getfield 77, 3) := by decide +kernel
theorem dX7_advances_90 : decode cX7_advances 90 = .ok (.aload_n 0, 1) := by decide +kernel
theorem dX7_advances_91 : decode cX7_advances 91 = .ok (.getfield 84, 3) := by decide +kernel
theorem dX7_advances_94 : decode cX7_advances 94 = .ok (.isub, 1) := by decide +kernel
theorem dX7_advances_95 : decode cX7_advances 95 = .ok (.bipush 7, 2) := by decide +kernel
theorem dX7_advances_97 : decode cX7_advances 97 = .ok (.if_icmp .ge 18, 3) := by decide +kernel
theorem dX7_advances_100 : decode cX7_advances 100 = .ok (.lload_n 2, 1) := by decide +kernel
theorem dX7_advances_101 : decode cX7_advances 101 = .ok (.aload_n 0, 1) := by decide +kernel
theorem dX7_advances_102 : decode cX7_advances 102 = .ok (.aload_n 0, 1) := by decide +kernel
theorem dX7_advances_103 : decode cX7_advances 103 = .ok (.getfield 77, 3) := by decide +kernel
theorem dX7_advances_106 : decode cX7_advances 106 = .ok (.invokevirtual 80, 3) := by decide +kernel
theorem dX7_advances_109 : decode cX7_advances 109 = .ok (.invokestatic 69, 3) := by decide +kernel
theorem dX7_advances_112 : decode cX7_advances 112 = .ok (.goto 4, 3) := by decide +kernel
theorem dX7_advances_115 : decode cX7_advances 115 = .ok (.lload_n 2, 1) := by decide +kernel
theorem dX7_advances_116 : decode cX7_advances 116 = .ok (.lstore_n 2, 1) := by decide +kernel
theorem dX7_advances_117 : decode cX7_advances 117 = .ok (.aload_n 0, 1) := by decide +kernel
theorem dX7_advances_118 : decode cX7_advances 118 = .ok (.dup, 1) := by decide +kernel
theorem dX7_advances_119 : decode cX7_advances 119 = .ok (.getfield 77, 3) := by decide +kernel
theorem dX7_advances_122 : decode cX7_advances 122 = .ok (.iconst 1, 1) := by decide +kernel
theorem dX7_advances_123 : decode cX7_advances 123 = .ok (.iadd, 1) := by decide +kernel
theorem dX7_advances_124 : decode cX7_advances 124 = .ok (.putfield 77, 3) := by decide +kernel
theorem dX7_advances_127 : decode cX7_advances 127 = .ok (.goto (-59), 3) := by decide +kernel
theorem dX7_advances_130 : decode cX7_advances 130 = .ok (.aload_n 0, 1) := by decide +kernel
theorem dX7_advances_131 : decode cX7_advances 131 = .ok (.lload_n 2, 1) := by decide +kernel
theorem dX7_advances_132 : decode cX7_advances 132 = .ok (.invokestatic 90, 3) := by decide +kernel
theorem dX7_advances_135 : decode cX7_advances 135 = .ok (.putfield 94, 3) := by decide +kernel
theorem dX7_advances_138 : decode cX7_advances 138 = .ok (.aload_n 0, 1) := by decide +kernel
theorem dX7_advances_139 : decode cX7_advances 139 = .ok (.aload_n 0, 1) := by decide +kernel
theorem dX7_advances_140 : decode cX7_advances 140 = .ok (.getfield 94, 3) := by decide +kernel
theorem dX7_advances_143 : decode cX7_advances 143 = .ok (.bipush (-9), 2) := by decide +kernel
theorem dX7_advances_145 : decode cX7_advances 145 = .ok (.if_icmp .ne 7, 3) := by decide +kernel
theorem dX7_advances_148 : decode cX7_advances 148 = .ok (.iconst 4, 1) := by decide +kernel
theorem dX7_advances_149 : decode cX7_advances 149 = .ok (.goto 4, 3) := by decide +kernel
theorem dX7_advances_152 : decode cX7_advances 152 = .ok (.iconst 1, 1) := by decide +kernel
theorem dX7_advances_153 : decode cX7_advances 153 = .ok (.putfield 87, 3) := by decide +kernel
theorem dX7_advances_156 : decode cX7_advances 156 = .ok (.goto 154, 3) := by decide +kernel
theorem dX7_advances_159 : decode cX7_advances 159 = .ok (.iload_n 1, 1) := by decide +kernel
theorem dX7_advances_160 : decode cX7_advances 160 = .ok (.bipush 48, 2) := by decide +kernel
theorem dX7_advances_162 : decode cX7_advances 162 = .ok (.bipush 57, 2) := by decide +kernel
theorem dX7_advances_164 : decode cX7_advances 164 = .ok (.invokestatic 58, 3) := by decide +kernel
theorem dX7_advances_167 : decode cX7_advances 167 = .ok (.ifCond .eq 118, 3) := by decide +kernel
theorem dX7_advances_170 : decode cX7_advances 170 = .ok (.aload_n 0, 1) := by decide +kernel
theorem dX7_advances_171 : decode cX7_advances 171 = .ok (.iconst 0, 1) := by decide +kernel
theorem dX7_advances_172 : decode cX7_advances 172 = .ok (.putfield 94, 3) := by decide +kernel
theorem dX7_advances_175 : decode cX7_advances 175 = .ok (.aload_n 0, 1) := by decide +kernel
theorem dX7_advances_176 : decode cX7_advances 176 = .ok (.aload_n 0, 1) := by decide +kernel
theorem dX7_advances_177 : decode cX7_advances 177 = .ok (.getfield 77, 3) := by decide +kernel
theorem dX7_advances_180 : decode cX7_advances 180 = .ok (.invokevirtual 80, 3) := by decide +kernel
theorem dX7_advances_183 : decode cX7_advances 183 = .ok (.bipush 48, 2) := by decide +kernel
theorem dX7_advances_185 : decode cX7_advances 185 = .ok (.bipush 57, 2) := by decide +kernel
theorem dX7_advances_187 : decode cX7_advances 187 = .ok (.invokestatic 58, 3) := by decide +kernel
theorem dX7_advances_190 : decode cX7_advances 190 = .ok (.ifCond .eq 55, 3) := by decide +kernel
theorem dX7_advances_193 : decode cX7_advances 193 = .ok (.aload_n 0, 1) := by decide +kernel
theorem dX7_advances_194 : decode cX7_advances 194 = .ok (.aload_n 0, 1) := by decide +kernel
theorem dX7_advances_195 : decode cX7_advances 195 = .ok (.getfield 94, 3) := by decide +kernel
theorem dX7_advances_198 : decode cX7_advances 198 = .ok (.bipush 99, 2) := by decide +kernel
theorem dX7_advances_200 : decode cX7_advances 200 = .ok (.if_icmp .le 10, 3) := by decide +kernel
theorem dX7_advances_203 : decode cX7_advances 203 = .ok (.aload_n 0, 1) := by decide +kernel
theorem dX7_advances_204 : decode cX7_advances 204 = .ok (.getfield 94, 3) := by decide +kernel
theorem dX7_advances_207 : decode cX7_advances 207 = .ok (.goto 22, 3) := by decide +kernel
theorem dX7_advances_210 : decode cX7_advances 210 = .ok (.bipush 10, 2) := by decide +kernel
theorem dX7_advances_212 : decode cX7_advances 212 = .ok (.aload_n 0, 1) := by decide +kernel
theorem dX7_advances_213 : decode cX7_advances 213 = .ok (.getfield 94, 3) := by decide +kernel
theorem dX7_advances_216 : decode cX7_advances 216 = .ok (.imul, 1) := by decide +kernel
theorem dX7_advances_217 : decode cX7_advances 217 = .ok (.aload_n 0, 1) := by decide +kernel
theorem dX7_advances_218 : decode cX7_advances 218 = .ok (.aload_n 0, 1) := by decide +kernel
theorem dX7_advances_219 : decode cX7_advances 219 = .ok (.getfield 77, 3) := by decide +kernel
theorem dX7_advances_222 : decode cX7_advances 222 = .ok (.invokevirtual 80, 3) := by decide +kernel
theorem dX7_advances_225 : decode cX7_advances 225 = .ok (.iadd, 1) := by decide +kernel
theorem dX7_advances_226 : decode cX7_advances 226 = .ok (.bipush 48, 2) := by decide +kernel
theorem dX7_advances_228 : decode cX7_advances 228 = .ok (.isub, 1) := by decide +kernel
theorem dX7_advances_229 : decode cX7_advances 229 = .ok (.putfield 94, 3) := by decide +kernel
theorem dX7_advances_232 : decode cX7_advances 232 = .ok (.aload_n 0, 1) := by decide +kernel
theorem dX7_advances_233 : decode cX7_advances 233 = .ok (.dup, 1) := by decide +kernel
theorem dX7_advances_234 : decode cX7_advances 234 = .ok (.getfield 77, 3) := by decide +kernel
theorem dX7_advances_237 : decode cX7_advances 237 = .ok (.iconst 1, 1) := by decide +kernel
theorem dX7_advances_238 : decode cX7_advances 238 = .ok (.iadd, 1) := by decide +kernel
theorem dX7_advances_239 : decode cX7_advances 239 = .ok (.putfield 77, 3) := by decide +kernel
theorem dX7_advances_242 : decode cX7_advances 242 = .ok (.goto (-67), 3) := by decide +kernel
theorem dX7_advances_245 : decode cX7_advances 245 = .ok (.aload_n 0, 1) := by decide +kernel
theorem dX7_advances_246 : decode cX7_advances 246 = .ok (.aload_n 0, 1) := by decide +kernel
theorem dX7_advances_247 : decode cX7_advances 247 = .ok (.getfield 94, 3) := by decide +kernel
theorem dX7_advances_250 : decode cX7_advances 250 = .ok (.bipush 99, 2) := by decide +kernel
theorem dX7_advances_252 : decode cX7_advances 252 = .ok (.if_icmp .gt 22, 3) := by decide +kernel
theorem dX7_advances_255 : decode cX7_advances 255 = .ok (.iload_n 1, 1) := by decide +kernel
theorem dX7_advances_256 : decode cX7_advances 256 = .ok (.bipush 48, 2) := by decide +kernel
theorem dX7_advances_258 : decode cX7_advances 258 = .ok (.if_icmp .ne 20, 3) := by decide +kernel
theorem dX7_advances_261 : decode cX7_advances 261 = .ok (.aload_n 0, 1) := by decide +kernel
theorem dX7_advances_262 : decode cX7_advances 262 = .ok (.getfield 77, 3) := by decide +kernel
theorem dX7_advances_265 : decode cX7_advances 265 = .ok (.aload_n 0, 1) := by decide +kernel
theorem dX7_advances_266 : decode cX7_advances 266 = .ok (.getfield 84, 3) := by decide +kernel
theorem dX7_advances_269 : decode cX7_advances 269 = .ok (.isub, 1) := by decide +kernel
theorem dX7_advances_270 : decode cX7_advances 270 = .ok (.iconst 1, 1) := by decide +kernel
theorem dX7_advances_271 : decode cX7_advances 271 = .ok (.if_icmp .le 7, 3) := by decide +kernel
theorem dX7_advances_274 : decode cX7_advances 274 = .ok (.iconst 4, 1) := by decide +kernel
theorem dX7_advances_275 : decode cX7_advances 275 = .ok (.goto 4, 3) := by decide +kernel
theorem dX7_advances_278 : decode cX7_advances 278 = .ok (.iconst 2, 1) := by decide +kernel
theorem dX7_advances_279 : decode cX7_advances 279 = .ok (.putfield 87, 3) := by decide +kernel
theorem dX7_advances_282 : decode cX7_advances 282 = .ok (.goto 28, 3) := by decide +kernel
theorem dX7_advances_285 : decode cX7_advances 285 = .ok (.aload_n 0, 1) := by decide +kernel
theorem dX7_advances_286 : decode cX7_advances 286 = .ok (.dup, 1) := by decide +kernel
theorem dX7_advances_287 : decode cX7_advances 287 = .ok (.getfield 77, 3) := by decide +kernel
theorem dX7_advances_290 : decode cX7_advances 290 = .ok (.iconst 1, 1) := by decide +kernel
theorem dX7_advances_291 : decode cX7_advances 291 = .ok (.iadd, 1) := by decide +kernel
theorem dX7_advances_292 : decode cX7_advances 292 = .ok (.putfield 77, 3) := by decide +kernel
theorem dX7_advances_295 : decode cX7_advances 295 = .ok (.aload_n 0, 1) := by decide +kernel
theorem dX7_advances_296 : decode cX7_advances 296 = .ok (.iload_n 1, 1) := by decide +kernel
theorem dX7_advances_297 : decode cX7_advances 297 = .ok (.bipush 59, 2) := by decide +kernel
theorem dX7_advances_299 : decode cX7_advances 299 = .ok (.if_icmp .ne 7, 3) := by decide +kernel
theorem dX7_advances_302 : decode cX7_advances 302 = .ok (.iconst 3, 1) := by decide +kernel
theorem dX7_advances_303 : decode cX7_advances 303 = .ok (.goto 4, 3) := by decide +kernel
theorem dX7_advances_306 : decode cX7_advances 306 = .ok (.iconst 4, 1) := by decide +kernel
theorem dX7_advances_307 : decode cX7_advances 307 = .ok (.putfield 87, 3) := by decide +kernel
theorem dX7_advances_310 : decode cX7_advances 310 = .ok (.return_, 1) := by decide +kernel
theorem dX7_isWell_0 : decode cX7_isWell 0 = .ok (.aload_n 0, 1) := by decide +kernel
theorem dX7_isWell_1 : decode cX7_isWell 1 = .ok (.getfield 97, 3) := by decide +kernel
theorem dX7_isWell_4 : decode cX7_isWell 4 = .ok (.ifCond .ge 7, 3) := by decide +kernel
theorem dX7_isWell_7 : decode cX7_isWell 7 = .ok (.iconst 1, 1) := by decide +kernel
theorem dX7_isWell_8 : decode cX7_isWell 8 = .ok (.goto 4, 3) := by decide +kernel
theorem dX7_isWell_11 : decode cX7_isWell 11 = .ok (.iconst 0, 1) := by decide +kernel
theorem dX7_isWell_12 : decode cX7_isWell 12 = .ok (.ireturn, 1) := by decide +kernel
set_option maxRecDepth 20000 in
theorem ggX7_takes_X7_isWell : GoodIn wsX7_takes wsX7_isWell := goodIn_r _ [8, 2, 34, 35, 36, 37, 38, 39, 40, 41, 42, 43, 44, 45, 46, 47, 48, 49, 50, 51, 52, 53, 54, 55, 56, 57] (by decide +kernel) (by decide +kernel)
set_option maxRecDepth 20000 in
theorem gX7_takes_X7_isWell : GoodIn wsX7_takes (wsV RX7 100 RX7 yX7_isWell wsX7_isWell) := goodIn_app (goodIn_of _ (by decide +kernel)) ggX7_takes_X7_isWell
set_option maxRecDepth 20000 in
theorem ggX7_takes_X7_advances : GoodIn wsX7_takes wsX7_advances := goodIn_r _ [12, 13, 1, 14, 3, 15, 16, 17, 7, 18, 19, 20, 21, 22, 23, 24, 25, 26, 27, 28, 29, 30, 31, 32, 33, 34, 35, 36, 37, 38, 39, 40, 41, 42, 43, 44, 45, 46, 47, 48, 49, 50, 51, 52, 53, 54, 55, 56, 57] (by decide +kernel) (by decide +kernel)
set_option maxRecDepth 20000 in
theorem gX7_takes_X7_advances : GoodIn wsX7_takes (wsV RX7 104 RX7 yX7_advances wsX7_advances) := goodIn_app (goodIn_of _ (by decide +kernel)) ggX7_takes_X7_advances
theorem dX7_takes_0 : decode cX7_takes 0 = .ok (.aload_n 0, 1) := by decide +kernel
theorem dX7_takes_1 : decode cX7_takes 1 = .ok (.invokevirtual 100, 3) := by decide +kernel
theorem dX7_takes_4 : decode cX7_takes 4 = .ok (.ifCond .ne 5, 3) := by decide +kernel
theorem dX7_takes_7 : decode cX7_takes 7 = .ok (.iconst 0, 1) := by decide +kernel
theorem dX7_takes_8 : decode cX7_takes 8 = .ok (.ireturn, 1) := by decide +kernel
theorem dX7_takes_9 : decode cX7_takes 9 = .ok (.iload_n 1, 1) := by decide +kernel
theorem dX7_takes_10 : decode cX7_takes 10 = .ok (.ifCond .ne 13, 3) := by decide +kernel
theorem dX7_takes_13 : decode cX7_takes 13 = .ok (.aload_n 0, 1) := by decide +kernel
theorem dX7_takes_14 : decode cX7_takes 14 = .ok (.aload_n 0, 1) := by decide +kernel
theorem dX7_takes_15 : decode cX7_takes 15 = .ok (.getfield 84, 3) := by decide +kernel
theorem dX7_takes_18 : decode cX7_takes 18 = .ok (.putfield 97, 3) := by decide +kernel
theorem dX7_takes_21 : decode cX7_takes 21 = .ok (.iconst 0, 1) := by decide +kernel
theorem dX7_takes_22 : decode cX7_takes 22 = .ok (.ireturn, 1) := by decide +kernel
theorem dX7_takes_23 : decode cX7_takes 23 = .ok (.aload_n 0, 1) := by decide +kernel
theorem dX7_takes_24 : decode cX7_takes 24 = .ok (.getfield 94, 3) := by decide +kernel
theorem dX7_takes_27 : decode cX7_takes 27 = .ok (.istore_n 2, 1) := by decide +kernel
theorem dX7_takes_28 : decode cX7_takes 28 = .ok (.aload_n 0, 1) := by decide +kernel
theorem dX7_takes_29 : decode cX7_takes 29 = .ok (.invokevirtual 104, 3) := by decide +kernel
theorem dX7_takes_32 : decode cX7_takes 32 = .ok (.iload_n 2, 1) := by decide +kernel
theorem dX7_takes_33 : decode cX7_takes 33 = .ok (.ireturn, 1) := by decide +kernel
set_option maxRecDepth 20000 in
theorem ggX7_number_X7_in : GoodIn wsX7_number wsX7_in := goodIn_r _ [6] (by decide +kernel) (by decide +kernel)
set_option maxRecDepth 20000 in
theorem gX7_number_X7_in : GoodIn wsX7_number (va_wsS RX7 58 yX7_in wsX7_in) := goodIn_app (goodIn_of _ (by decide +kernel)) ggX7_number_X7_in
set_option maxRecDepth 20000 in
theorem ggX7_number_X7_takes : GoodIn wsX7_number wsX7_takes := goodIn_r _ [10, 11, 12, 2, 13, 14, 15, 5, 16, 17, 18, 19, 20, 21, 1, 22, 23, 24, 25, 26, 27, 3, 4, 6, 28, 29, 30, 31, 32, 33, 34, 35, 36, 37, 38, 39, 40, 41, 42, 43, 44, 45, 46, 47, 48, 49, 50, 51, 52, 53, 54, 55, 56, 57, 58, 59, 60, 61] (by decide +kernel) (by decide +kernel)
set_option maxRecDepth 20000 in
theorem gX7_number_X7_takes : GoodIn wsX7_number (wsV RX7 107 RX7 yX7_takes wsX7_takes) := goodIn_app (goodIn_of _ (by decide +kernel)) ggX7_number_X7_takes
theorem dX7_number_0 : decode cX7_number 0 = .ok (.aload_n 0, 1) := by decide +kernel
theorem dX7_number_1 : decode cX7_number 1 = .ok (.aload_n 0, 1) := by decide +kernel
theorem dX7_number_2 : decode cX7_number 2 = .ok (.getfield 87, 3) := by decide +kernel
theorem dX7_number_5 : decode cX7_number 5 = .ok (.iconst 2, 1) := by decide +kernel
theorem dX7_number_6 : decode cX7_number 6 = .ok (.if_icmp .ne 19, 3) := by decide +kernel
theorem dX7_number_9 : decode cX7_number 9 = .ok (.aload_n 0, 1) := by decide +kernel
theorem dX7_number_10 : decode cX7_number 10 = .ok (.getfield 94, 3) := by decide +kernel
theorem dX7_number_13 : decode cX7_number 13 = .ok (.iload_n 1, 1) := by decide +kernel
theorem dX7_number_14 : decode cX7_number 14 = .ok (.iload_n 2, 1) := by decide +kernel
theorem dX7_number_15 : decode cX7_number 15 = .ok (.invokestatic 58, 3) := by decide +kernel
theorem dX7_number_18 : decode cX7_number 18 = .ok (.ifCond .eq 7, 3) := by decide +kernel
theorem dX7_number_21 : decode cX7_number 21 = .ok (.iconst 1, 1) := by decide +kernel
