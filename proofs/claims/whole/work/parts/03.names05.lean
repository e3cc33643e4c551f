set_option maxRecDepth 20000 in
theorem ggX6_all_X6_isHalf : GoodIn wsX6_all wsX6_isHalf := goodIn_r _ [7] (by decide +kernel) (by decide +kernel)
set_option maxRecDepth 20000 in
theorem gX6_all_X6_isHalf : GoodIn wsX6_all (va_wsS RX6 166 yX6_isHalf wsX6_isHalf) := goodIn_app (goodIn_of _ (by decide +kernel)) ggX6_all_X6_isHalf
set_option maxRecDepth 20000 in
theorem ggX6_all_X0_leaveAllFree : GoodIn wsX6_all wsX0_leaveAllFree := goodIn_r _ [11, 12, 13, 14, 9, 15, 16, 17, 18, 19, 20, 21, 22, 23, 24, 25, 26, 27, 28, 29, 30, 31, 32, 33, 34, 72, 73, 74, 75, 76, 77, 78] (by decide +kernel) (by decide +kernel)
set_option maxRecDepth 20000 in
theorem gX6_all_X0_leaveAllFree_n183 : GoodIn wsX6_all (wsX0_leaveAllFree) := ggX6_all_X0_leaveAllFree
set_option maxRecDepth 20000 in
theorem ggX6_all_X0_waysToAll : GoodIn wsX6_all wsX0_waysToAll := goodIn_r _ [37, 16, 38, 39, 40, 41, 42, 43, 44, 72, 73, 74, 75, 76, 77] (by decide +kernel) (by decide +kernel)
set_option maxRecDepth 20000 in
theorem gX6_all_X0_waysToAll_n186 : GoodIn wsX6_all (wsX0_waysToAll) := ggX6_all_X0_waysToAll
set_option maxRecDepth 20000 in
theorem ggX6_all_X0_waysInAll : GoodIn wsX6_all wsX0_waysInAll := goodIn_r _ [47, 16, 72, 73, 74, 75, 76, 77] (by decide +kernel) (by decide +kernel)
set_option maxRecDepth 20000 in
theorem gX6_all_X0_waysInAll_n190 : GoodIn wsX6_all (wsX0_waysInAll) := ggX6_all_X0_waysInAll
set_option maxRecDepth 20000 in
theorem ggX6_all_X6_inLeastTerms : GoodIn wsX6_all wsX6_inLeastTerms := goodIn_r _ [50, 51, 52, 6, 53] (by decide +kernel) (by decide +kernel)
set_option maxRecDepth 20000 in
theorem gX6_all_X6_inLeastTerms : GoodIn wsX6_all (va_wsS RX6 179 yX6_inLeastTerms wsX6_inLeastTerms) := goodIn_app (goodIn_of _ (by decide +kernel)) ggX6_all_X6_inLeastTerms
theorem dX6_all_0 : decode cX6_all 0 = .ok (.iload_n 1, 1) := by decide +kernel
theorem dX6_all_1 : decode cX6_all 1 = .ok (.invokestatic 166, 3) := by decide +kernel
theorem dX6_all_4 : decode cX6_all 4 = .ok (.ifCond .ne 7, 3) := by decide +kernel
theorem dX6_all_7 : decode cX6_all 7 = .ok (.ldc2_w 169, 3) := by decide +kernel
theorem dX6_all_10 : decode cX6_all 10 = .ok (.lreturn, 1) := by decide +kernel
theorem dX6_all_11 : decode cX6_all 11 = .ok (.aload_n 0, 1) := by decide +kernel
theorem dX6_all_12 : decode cX6_all 12 = .ok (.getfield 39, 3) := by decide +kernel
theorem dX6_all_15 : decode cX6_all 15 = .ok (.aload_n 0, 1) := by decide +kernel
theorem dX6_all_16 : decode cX6_all 16 = .ok (.getfield 26, 3) := by decide +kernel
theorem dX6_all_19 : decode cX6_all 19 = .ok (.getfield 104, 3) := by decide +kernel
theorem dX6_all_22 : decode cX6_all 22 = .ok (.invokevirtual 183, 3) := by decide +kernel
theorem dX6_all_25 : decode cX6_all 25 = .ok (.aload_n 0, 1) := by decide +kernel
theorem dX6_all_26 : decode cX6_all 26 = .ok (.getfield 39, 3) := by decide +kernel
theorem dX6_all_29 : decode cX6_all 29 = .ok (.invokevirtual 186, 3) := by decide +kernel
theorem dX6_all_32 : decode cX6_all 32 = .ok (.aload_n 0, 1) := by decide +kernel
theorem dX6_all_33 : decode cX6_all 33 = .ok (.getfield 39, 3) := by decide +kernel
theorem dX6_all_36 : decode cX6_all 36 = .ok (.invokevirtual 190, 3) := by decide +kernel
theorem dX6_all_39 : decode cX6_all 39 = .ok (.iload_n 1, 1) := by decide +kernel
theorem dX6_all_40 : decode cX6_all 40 = .ok (.invokestatic 179, 3) := by decide +kernel
theorem dX6_all_43 : decode cX6_all 43 = .ok (.lreturn, 1) := by decide +kernel
set_option maxRecDepth 20000 in
theorem ggX6_call_X6_isHouse : GoodIn wsX6_call wsX6_isHouse := goodIn_r _ [7, 8, 60, 61, 62, 63, 64, 65, 66, 67, 68, 69, 84, 85, 86, 87, 88, 89, 90] (by decide +kernel) (by decide +kernel)
set_option maxRecDepth 20000 in
theorem gX6_call_X6_isHouse : GoodIn wsX6_call (wsV RX6 91 RX6 yX6_isHouse wsX6_isHouse) := goodIn_app (goodIn_of _ (by decide +kernel)) ggX6_call_X6_isHouse
set_option maxRecDepth 20000 in
theorem ggX6_call_X0_fewestTold : GoodIn wsX6_call wsX0_fewestTold := goodIn_r _ [12, 13, 14, 15, 16, 17, 10, 18, 19, 20, 21, 22, 23, 24, 25, 26, 27, 28, 29, 30, 31, 32, 33, 34, 35, 36, 37, 38, 39, 40, 41, 42, 43, 44, 45, 46, 47, 48, 49, 50, 51, 52, 53, 54, 55, 56, 57, 58, 59, 78, 79, 80, 81, 82, 83, 91] (by decide +kernel) (by decide +kernel)
set_option maxRecDepth 20000 in
theorem gX6_call_X0_fewestTold_n193 : GoodIn wsX6_call (wsX0_fewestTold) := ggX6_call_X0_fewestTold
theorem dX6_call_0 : decode cX6_call 0 = .ok (.iload_n 2, 1) := by decide +kernel
theorem dX6_call_1 : decode cX6_call 1 = .ok (.iconst 1, 1) := by decide +kernel
theorem dX6_call_2 : decode cX6_call 2 = .ok (.if_icmp .lt 31, 3) := by decide +kernel
theorem dX6_call_5 : decode cX6_call 5 = .ok (.iload_n 2, 1) := by decide +kernel
theorem dX6_call_6 : decode cX6_call 6 = .ok (.bipush 99, 2) := by decide +kernel
theorem dX6_call_8 : decode cX6_call 8 = .ok (.if_icmp .gt 25, 3) := by decide +kernel
theorem dX6_call_11 : decode cX6_call 11 = .ok (.iload_n 1, 1) := by decide +kernel
theorem dX6_call_12 : decode cX6_call 12 = .ok (.ifCond .lt 21, 3) := by decide +kernel
theorem dX6_call_15 : decode cX6_call 15 = .ok (.iload_n 1, 1) := by decide +kernel
theorem dX6_call_16 : decode cX6_call 16 = .ok (.iload_n 2, 1) := by decide +kernel
theorem dX6_call_17 : decode cX6_call 17 = .ok (.if_icmp .gt 16, 3) := by decide +kernel
theorem dX6_call_20 : decode cX6_call 20 = .ok (.iload_n 3, 1) := by decide +kernel
theorem dX6_call_21 : decode cX6_call 21 = .ok (.iconst (-1), 1) := by decide +kernel
theorem dX6_call_22 : decode cX6_call 22 = .ok (.if_icmp .eq 13, 3) := by decide +kernel
theorem dX6_call_25 : decode cX6_call 25 = .ok (.aload_n 0, 1) := by decide +kernel
theorem dX6_call_26 : decode cX6_call 26 = .ok (.iload_n 3, 1) := by decide +kernel
theorem dX6_call_27 : decode cX6_call 27 = .ok (.invokevirtual 91, 3) := by decide +kernel
theorem dX6_call_30 : decode cX6_call 30 = .ok (.ifCond .ne 5, 3) := by decide +kernel
theorem dX6_call_33 : decode cX6_call 33 = .ok (.iconst (-1), 1) := by decide +kernel
theorem dX6_call_34 : decode cX6_call 34 = .ok (.ireturn, 1) := by decide +kernel
theorem dX6_call_35 : decode cX6_call 35 = .ok (.aload_n 0, 1) := by decide +kernel
theorem dX6_call_36 : decode cX6_call 36 = .ok (.getfield 39, 3) := by decide +kernel
theorem dX6_call_39 : decode cX6_call 39 = .ok (.aload_n 0, 1) := by decide +kernel
theorem dX6_call_40 : decode cX6_call 40 = .ok (.getfield 26, 3) := by decide +kernel
theorem dX6_call_43 : decode cX6_call 43 = .ok (.getfield 104, 3) := by decide +kernel
theorem dX6_call_46 : decode cX6_call 46 = .ok (.iload_n 1, 1) := by decide +kernel
theorem dX6_call_47 : decode cX6_call 47 = .ok (.iload_n 2, 1) := by decide +kernel
theorem dX6_call_48 : decode cX6_call 48 = .ok (.invokevirtual 193, 3) := by decide +kernel
theorem dX6_call_51 : decode cX6_call 51 = .ok (.istore 4, 2) := by decide +kernel
theorem dX6_call_53 : decode cX6_call 53 = .ok (.iload 4, 2) := by decide +kernel
theorem dX6_call_55 : decode cX6_call 55 = .ok (.bipush (-9), 2) := by decide +kernel
theorem dX6_call_57 : decode cX6_call 57 = .ok (.if_icmp .eq 8, 3) := by decide +kernel
theorem dX6_call_60 : decode cX6_call 60 = .ok (.iload_n 3, 1) := by decide +kernel
theorem dX6_call_61 : decode cX6_call 61 = .ok (.iconst (-1), 1) := by decide +kernel
theorem dX6_call_62 : decode cX6_call 62 = .ok (.if_icmp .ne 8, 3) := by decide +kernel
theorem dX6_call_65 : decode cX6_call 65 = .ok (.iload 4, 2) := by decide +kernel
theorem dX6_call_67 : decode cX6_call 67 = .ok (.goto 12, 3) := by decide +kernel
theorem dX6_call_70 : decode cX6_call 70 = .ok (.aload_n 0, 1) := by decide +kernel
theorem dX6_call_71 : decode cX6_call 71 = .ok (.getfield 39, 3) := by decide +kernel
theorem dX6_call_74 : decode cX6_call 74 = .ok (.getfield 197, 3) := by decide +kernel
theorem dX6_call_77 : decode cX6_call 77 = .ok (.iload_n 3, 1) := by decide +kernel
theorem dX6_call_78 : decode cX6_call 78 = .ok (.iaload, 1) := by decide +kernel
theorem dX6_call_79 : decode cX6_call 79 = .ok (.ireturn, 1) := by decide +kernel
set_option maxRecDepth 20000 in
theorem ggX6_shared_X6_crossing : GoodIn wsX6_shared wsX6_crossing := goodIn_r _ [9, 10, 11, 12, 13, 8, 14, 15, 16, 17, 18, 19, 20, 21, 22, 23, 24, 25, 26, 27, 28, 29, 30, 31, 32, 33, 34, 35, 36, 37, 38, 39, 40, 41, 42, 43, 44] (by decide +kernel) (by decide +kernel)
set_option maxRecDepth 20000 in
theorem gX6_shared_X6_crossing : GoodIn wsX6_shared (wsV RX6 200 RX6 yX6_crossing wsX6_crossing) := goodIn_app (goodIn_of _ (by decide +kernel)) ggX6_shared_X6_crossing
theorem dX6_shared_0 : decode cX6_shared 0 = .ok (.aload_n 0, 1) := by decide +kernel
theorem dX6_shared_1 : decode cX6_shared 1 = .ok (.iconst 0, 1) := by decide +kernel
theorem dX6_shared_2 : decode cX6_shared 2 = .ok (.invokevirtual 200, 3) := by decide +kernel
theorem dX6_shared_5 : decode cX6_shared 5 = .ok (.istore_n 1, 1) := by decide +kernel
theorem dX6_shared_6 : decode cX6_shared 6 = .ok (.iconst 1, 1) := by decide +kernel
theorem dX6_shared_7 : decode cX6_shared 7 = .ok (.istore_n 2, 1) := by decide +kernel
theorem dX6_shared_8 : decode cX6_shared 8 = .ok (.iload_n 2, 1) := by decide +kernel
theorem dX6_shared_9 : decode cX6_shared 9 = .ok (.bipush 16, 2) := by decide +kernel
theorem dX6_shared_11 : decode cX6_shared 11 = .ok (.if_icmp .ge 19, 3) := by decide +kernel
theorem dX6_shared_14 : decode cX6_shared 14 = .ok (.iload_n 1, 1) := by decide +kernel
theorem dX6_shared_15 : decode cX6_shared 15 = .ok (.aload_n 0, 1) := by decide +kernel
theorem dX6_shared_16 : decode cX6_shared 16 = .ok (.iload_n 2, 1) := by decide +kernel
theorem dX6_shared_17 : decode cX6_shared 17 = .ok (.invokevirtual 200, 3) := by decide +kernel
theorem dX6_shared_20 : decode cX6_shared 20 = .ok (.invokestatic 203, 3) := by decide +kernel
theorem dX6_shared_23 : decode cX6_shared 23 = .ok (.istore_n 1, 1) := by decide +kernel
theorem dX6_shared_24 : decode cX6_shared 24 = .ok (.iinc 2 1, 3) := by decide +kernel
theorem dX6_shared_27 : decode cX6_shared 27 = .ok (.goto (-19), 3) := by decide +kernel
theorem dX6_shared_30 : decode cX6_shared 30 = .ok (.iload_n 1, 1) := by decide +kernel
theorem dX6_shared_31 : decode cX6_shared 31 = .ok (.ireturn, 1) := by decide +kernel
set_option maxRecDepth 20000 in
theorem ggX6_swings_X6_isHalf : GoodIn wsX6_swings wsX6_isHalf := goodIn_r _ [7] (by decide +kernel) (by decide +kernel)
set_option maxRecDepth 20000 in
theorem gX6_swings_X6_isHalf : GoodIn wsX6_swings (va_wsS RX6 166 yX6_isHalf wsX6_isHalf) := goodIn_app (goodIn_of _ (by decide +kernel)) ggX6_swings_X6_isHalf
set_option maxRecDepth 20000 in
theorem ggX6_swings_X5_comeRound : GoodIn wsX6_swings wsX5_comeRound := goodIn_r _ [11, 12, 13, 14, 15, 16, 17, 18, 19, 20, 21, 22, 23, 24, 25, 26, 27, 28, 29, 30, 31, 32, 33, 34, 35, 9, 36, 37, 38, 39, 40, 41, 42, 43, 44, 45, 46, 47, 48, 49, 50, 51, 52, 53, 54, 55, 56, 57, 58, 84, 85, 86, 87, 88, 89, 90] (by decide +kernel) (by decide +kernel)
set_option maxRecDepth 20000 in
theorem gX6_swings_X5_comeRound_n208 : GoodIn wsX6_swings (wsX5_comeRound) := ggX6_swings_X5_comeRound
theorem dX6_swings_0 : decode cX6_swings 0 = .ok (.iload_n 1, 1) := by decide +kernel
theorem dX6_swings_1 : decode cX6_swings 1 = .ok (.invokestatic 166, 3) := by decide +kernel
theorem dX6_swings_4 : decode cX6_swings 4 = .ok (.ifCond .ne 5, 3) := by decide +kernel
theorem dX6_swings_7 : decode cX6_swings 7 = .ok (.iconst (-1), 1) := by decide +kernel
theorem dX6_swings_8 : decode cX6_swings 8 = .ok (.ireturn, 1) := by decide +kernel
theorem dX6_swings_9 : decode cX6_swings 9 = .ok (.aload_n 0, 1) := by decide +kernel
theorem dX6_swings_10 : decode cX6_swings 10 = .ok (.getfield 46, 3) := by decide +kernel
theorem dX6_swings_13 : decode cX6_swings 13 = .ok (.aload_n 0, 1) := by decide +kernel
theorem dX6_swings_14 : decode cX6_swings 14 = .ok (.getfield 26, 3) := by decide +kernel
theorem dX6_swings_17 : decode cX6_swings 17 = .ok (.getfield 104, 3) := by decide +kernel
theorem dX6_swings_20 : decode cX6_swings 20 = .ok (.aload_n 0, 1) := by decide +kernel
theorem dX6_swings_21 : decode cX6_swings 21 = .ok (.getfield 19, 3) := by decide +kernel
theorem dX6_swings_24 : decode cX6_swings 24 = .ok (.getfield 117, 3) := by decide +kernel
theorem dX6_swings_27 : decode cX6_swings 27 = .ok (.invokevirtual 208, 3) := by decide +kernel
theorem dX6_swings_30 : decode cX6_swings 30 = .ok (.ifCond .ne 6, 3) := by decide +kernel
theorem dX6_swings_33 : decode cX6_swings 33 = .ok (.bipush (-9), 2) := by decide +kernel
theorem dX6_swings_35 : decode cX6_swings 35 = .ok (.ireturn, 1) := by decide +kernel
theorem dX6_swings_36 : decode cX6_swings 36 = .ok (.iload_n 1, 1) := by decide +kernel
theorem dX6_swings_37 : decode cX6_swings 37 = .ok (.ifCond .ne 13, 3) := by decide +kernel
theorem dX6_swings_40 : decode cX6_swings 40 = .ok (.aload_n 0, 1) := by decide +kernel
theorem dX6_swings_41 : decode cX6_swings 41 = .ok (.getfield 46, 3) := by decide +kernel
theorem dX6_swings_44 : decode cX6_swings 44 = .ok (.getfield 212, 3) := by decide +kernel
theorem dX6_swings_47 : decode cX6_swings 47 = .ok (.goto 10, 3) := by decide +kernel
theorem dX6_swings_50 : decode cX6_swings 50 = .ok (.aload_n 0, 1) := by decide +kernel
theorem dX6_swings_51 : decode cX6_swings 51 = .ok (.getfield 46, 3) := by decide +kernel
theorem dX6_swings_54 : decode cX6_swings 54 = .ok (.getfield 215, 3) := by decide +kernel
theorem dX6_swings_57 : decode cX6_swings 57 = .ok (.ireturn, 1) := by decide +kernel
set_option maxRecDepth 20000 in
theorem ggX6_ill_X6_isHouse : GoodIn wsX6_ill wsX6_isHouse := goodIn_r _ [6, 7, 8, 9, 10, 11, 12, 13, 14, 15, 16, 17, 26, 27, 28, 29, 30, 31, 32] (by decide +kernel) (by decide +kernel)
set_option maxRecDepth 20000 in
theorem gX6_ill_X6_isHouse : GoodIn wsX6_ill (wsV RX6 91 RX6 yX6_isHouse wsX6_isHouse) := goodIn_app (goodIn_of _ (by decide +kernel)) ggX6_ill_X6_isHouse
theorem dX6_ill_0 : decode cX6_ill 0 = .ok (.aload_n 0, 1) := by decide +kernel
theorem dX6_ill_1 : decode cX6_ill 1 = .ok (.iload_n 1, 1) := by decide +kernel
theorem dX6_ill_2 : decode cX6_ill 2 = .ok (.invokevirtual 91, 3) := by decide +kernel
theorem dX6_ill_5 : decode cX6_ill 5 = .ok (.ifCond .eq 12, 3) := by decide +kernel
theorem dX6_ill_8 : decode cX6_ill 8 = .ok (.iload_n 2, 1) := by decide +kernel
theorem dX6_ill_9 : decode cX6_ill 9 = .ok (.ifCond .eq 10, 3) := by decide +kernel
theorem dX6_ill_12 : decode cX6_ill 12 = .ok (.iload_n 2, 1) := by decide +kernel
theorem dX6_ill_13 : decode cX6_ill 13 = .ok (.iconst 1, 1) := by decide +kernel
theorem dX6_ill_14 : decode cX6_ill 14 = .ok (.if_icmp .eq 5, 3) := by decide +kernel
theorem dX6_ill_17 : decode cX6_ill 17 = .ok (.iconst (-1), 1) := by decide +kernel
theorem dX6_ill_18 : decode cX6_ill 18 = .ok (.ireturn, 1) := by decide +kernel
theorem dX6_ill_19 : decode cX6_ill 19 = .ok (.aload_n 0, 1) := by decide +kernel
theorem dX6_ill_20 : decode cX6_ill 20 = .ok (.getfield 26, 3) := by decide +kernel
theorem dX6_ill_23 : decode cX6_ill 23 = .ok (.getfield 123, 3) := by decide +kernel
theorem dX6_ill_26 : decode cX6_ill 26 = .ok (.ifCond .ne 6, 3) := by decide +kernel
theorem dX6_ill_29 : decode cX6_ill 29 = .ok (.bipush (-2), 2) := by decide +kernel
theorem dX6_ill_31 : decode cX6_ill 31 = .ok (.ireturn, 1) := by decide +kernel
theorem dX6_ill_32 : decode cX6_ill 32 = .ok (.iload_n 2, 1) := by decide +kernel
theorem dX6_ill_33 : decode cX6_ill 33 = .ok (.iconst 1, 1) := by decide +kernel
theorem dX6_ill_34 : decode cX6_ill 34 = .ok (.if_icmp .ne 7, 3) := by decide +kernel
theorem dX6_ill_37 : decode cX6_ill 37 = .ok (.iconst 2, 1) := by decide +kernel
theorem dX6_ill_38 : decode cX6_ill 38 = .ok (.goto 4, 3) := by decide +kernel
theorem dX6_ill_41 : decode cX6_ill 41 = .ok (.iconst 1, 1) := by decide +kernel
theorem dX6_ill_42 : decode cX6_ill 42 = .ok (.istore_n 3, 1) := by decide +kernel
theorem dX6_ill_43 : decode cX6_ill 43 = .ok (.aload_n 0, 1) := by decide +kernel
theorem dX6_ill_44 : decode cX6_ill 44 = .ok (.getfield 26, 3) := by decide +kernel
theorem dX6_ill_47 : decode cX6_ill 47 = .ok (.getfield 218, 3) := by decide +kernel
theorem dX6_ill_50 : decode cX6_ill 50 = .ok (.iload_n 1, 1) := by decide +kernel
theorem dX6_ill_51 : decode cX6_ill 51 = .ok (.iaload, 1) := by decide +kernel
theorem dX6_ill_52 : decode cX6_ill 52 = .ok (.iload_n 3, 1) := by decide +kernel
theorem dX6_ill_53 : decode cX6_ill 53 = .ok (.if_icmp .ne 7, 3) := by decide +kernel
theorem dX6_ill_56 : decode cX6_ill 56 = .ok (.iconst 0, 1) := by decide +kernel
theorem dX6_ill_57 : decode cX6_ill 57 = .ok (.goto 4, 3) := by decide +kernel
theorem dX6_ill_60 : decode cX6_ill 60 = .ok (.iconst 1, 1) := by decide +kernel
theorem dX6_ill_61 : decode cX6_ill 61 = .ok (.istore 4, 2) := by decide +kernel
theorem dX6_ill_63 : decode cX6_ill 63 = .ok (.aload_n 0, 1) := by decide +kernel
theorem dX6_ill_64 : decode cX6_ill 64 = .ok (.getfield 26, 3) := by decide +kernel
theorem dX6_ill_67 : decode cX6_ill 67 = .ok (.getfield 218, 3) := by decide +kernel
theorem dX6_ill_70 : decode cX6_ill 70 = .ok (.iload_n 1, 1) := by decide +kernel
theorem dX6_ill_71 : decode cX6_ill 71 = .ok (.iload_n 3, 1) := by decide +kernel
theorem dX6_ill_72 : decode cX6_ill 72 = .ok (.iastore, 1) := by decide +kernel
theorem dX6_ill_73 : decode cX6_ill 73 = .ok (.iload 4, 2) := by decide +kernel
theorem dX6_ill_75 : decode cX6_ill 75 = .ok (.ireturn, 1) := by decide +kernel
set_option maxRecDepth 20000 in
theorem ggX6_suspects_X6_isSuspect : GoodIn wsX6_suspects wsX6_isSuspect := goodIn_r _ [5, 6, 7, 8, 9, 10, 11, 12, 13, 14, 15, 16, 17, 18, 19, 20, 21, 22, 23, 24, 25, 26, 27, 28, 29] (by decide +kernel) (by decide +kernel)
set_option maxRecDepth 20000 in
theorem gX6_suspects_X6_isSuspect : GoodIn wsX6_suspects (wsV RX6 221 RX6 yX6_isSuspect wsX6_isSuspect) := goodIn_app (goodIn_of _ (by decide +kernel)) ggX6_suspects_X6_isSuspect
theorem dX6_suspects_0 : decode cX6_suspects 0 = .ok (.iconst 0, 1) := by decide +kernel
theorem dX6_suspects_1 : decode cX6_suspects 1 = .ok (.istore_n 1, 1) := by decide +kernel
theorem dX6_suspects_2 : decode cX6_suspects 2 = .ok (.iconst 0, 1) := by decide +kernel
theorem dX6_suspects_3 : decode cX6_suspects 3 = .ok (.istore_n 2, 1) := by decide +kernel
theorem dX6_suspects_4 : decode cX6_suspects 4 = .ok (.iload_n 2, 1) := by decide +kernel
theorem dX6_suspects_5 : decode cX6_suspects 5 = .ok (.iconst 4, 1) := by decide +kernel
theorem dX6_suspects_6 : decode cX6_suspects 6 = .ok (.if_icmp .ge 23, 3) := by decide +kernel
theorem dX6_suspects_9 : decode cX6_suspects 9 = .ok (.aload_n 0, 1) := by decide +kernel
theorem dX6_suspects_10 : decode cX6_suspects 10 = .ok (.iload_n 2, 1) := by decide +kernel
theorem dX6_suspects_11 : decode cX6_suspects 11 = .ok (.invokevirtual 221, 3) := by decide +kernel
theorem dX6_suspects_14 : decode cX6_suspects 14 = .ok (.ifCond .eq 9, 3) := by decide +kernel
theorem dX6_suspects_17 : decode cX6_suspects 17 = .ok (.iload_n 1, 1) := by decide +kernel
theorem dX6_suspects_18 : decode cX6_suspects 18 = .ok (.iconst 1, 1) := by decide +kernel
theorem dX6_suspects_19 : decode cX6_suspects 19 = .ok (.iload_n 2, 1) := by decide +kernel
theorem dX6_suspects_20 : decode cX6_suspects 20 = .ok (.ishl, 1) := by decide +kernel
theorem dX6_suspects_21 : decode cX6_suspects 21 = .ok (.ior, 1) := by decide +kernel
theorem dX6_suspects_22 : decode cX6_suspects 22 = .ok (.istore_n 1, 1) := by decide +kernel
theorem dX6_suspects_23 : decode cX6_suspects 23 = .ok (.iinc 2 1, 3) := by decide +kernel
theorem dX6_suspects_26 : decode cX6_suspects 26 = .ok (.goto (-22), 3) := by decide +kernel
theorem dX6_suspects_29 : decode cX6_suspects 29 = .ok (.iload_n 1, 1) := by decide +kernel
theorem dX6_suspects_30 : decode cX6_suspects 30 = .ok (.ireturn, 1) := by decide +kernel
set_option maxRecDepth 20000 in
theorem ggX6_rests_X6_isHalf : GoodIn wsX6_rests wsX6_isHalf := goodIn_r _ [4] (by decide +kernel) (by decide +kernel)
set_option maxRecDepth 20000 in
theorem gX6_rests_X6_isHalf : GoodIn wsX6_rests (va_wsS RX6 166 yX6_isHalf wsX6_isHalf) := goodIn_app (goodIn_of _ (by decide +kernel)) ggX6_rests_X6_isHalf
set_option maxRecDepth 20000 in
theorem ggX6_rests_X6_noteFavourites : GoodIn wsX6_rests wsX6_noteFavourites := goodIn_r _ [8, 9, 10, 11, 12, 13, 14, 15, 16, 17, 18, 19, 28, 29, 30, 31, 32, 33, 34, 35, 36, 37, 38, 39, 40, 41, 42, 43, 44, 45, 46] (by decide +kernel) (by decide +kernel)
set_option maxRecDepth 20000 in
theorem gX6_rests_X6_noteFavourites : GoodIn wsX6_rests (wsV RX6 224 RX6 yX6_noteFavourites wsX6_noteFavourites) := goodIn_app (goodIn_of _ (by decide +kernel)) ggX6_rests_X6_noteFavourites
set_option maxRecDepth 20000 in
theorem ggX6_rests_X6_isRest : GoodIn wsX6_rests wsX6_isRest := goodIn_r _ [23, 9, 24, 25, 26, 3, 27, 28, 29, 30, 31, 32, 33, 34, 35, 36, 37] (by decide +kernel) (by decide +kernel)
set_option maxRecDepth 20000 in
theorem gX6_rests_X6_isRest : GoodIn wsX6_rests (wsV RX6 227 RX6 yX6_isRest wsX6_isRest) := goodIn_app (goodIn_of _ (by decide +kernel)) ggX6_rests_X6_isRest
theorem dX6_rests_0 : decode cX6_rests 0 = .ok (.iload_n 1, 1) := by decide +kernel
theorem dX6_rests_1 : decode cX6_rests 1 = .ok (.iconst 1, 1) := by decide +kernel
theorem dX6_rests_2 : decode cX6_rests 2 = .ok (.if_icmp .lt 27, 3) := by decide +kernel
theorem dX6_rests_5 : decode cX6_rests 5 = .ok (.iload_n 1, 1) := by decide +kernel
theorem dX6_rests_6 : decode cX6_rests 6 = .ok (.bipush 99, 2) := by decide +kernel
theorem dX6_rests_8 : decode cX6_rests 8 = .ok (.if_icmp .gt 21, 3) := by decide +kernel
theorem dX6_rests_11 : decode cX6_rests 11 = .ok (.iload_n 2, 1) := by decide +kernel
theorem dX6_rests_12 : decode cX6_rests 12 = .ok (.iconst 1, 1) := by decide +kernel
theorem dX6_rests_13 : decode cX6_rests 13 = .ok (.if_icmp .lt 16, 3) := by decide +kernel
theorem dX6_rests_16 : decode cX6_rests 16 = .ok (.iload_n 2, 1) := by decide +kernel
theorem dX6_rests_17 : decode cX6_rests 17 = .ok (.bipush 99, 2) := by decide +kernel
theorem dX6_rests_19 : decode cX6_rests 19 = .ok (.if_icmp .gt 10, 3) := by decide +kernel
theorem dX6_rests_22 : decode cX6_rests 22 = .ok (.iload_n 3, 1) := by decide +kernel
theorem dX6_rests_23 : decode cX6_rests 23 = .ok (.invokestatic 166, 3) := by decide +kernel
theorem dX6_rests_26 : decode cX6_rests 26 = .ok (.ifCond .ne 5, 3) := by decide +kernel
theorem dX6_rests_29 : decode cX6_rests 29 = .ok (.iconst (-1), 1) := by decide +kernel
theorem dX6_rests_30 : decode cX6_rests 30 = .ok (.ireturn, 1) := by decide +kernel
theorem dX6_rests_31 : decode cX6_rests 31 = .ok (.aload_n 0, 1) := by decide +kernel
theorem dX6_rests_32 : decode cX6_rests 32 = .ok (.invokevirtual 224, 3) := by decide +kernel
theorem dX6_rests_35 : decode cX6_rests 35 = .ok (.iconst 0, 1) := by decide +kernel
theorem dX6_rests_36 : decode cX6_rests 36 = .ok (.istore 4, 2) := by decide +kernel
theorem dX6_rests_38 : decode cX6_rests 38 = .ok (.bipush (-9), 2) := by decide +kernel
theorem dX6_rests_40 : decode cX6_rests 40 = .ok (.istore 5, 2) := by decide +kernel
theorem dX6_rests_42 : decode cX6_rests 42 = .ok (.iconst 0, 1) := by decide +kernel
theorem dX6_rests_43 : decode cX6_rests 43 = .ok (.istore 6, 2) := by decide +kernel
theorem dX6_rests_45 : decode cX6_rests 45 = .ok (.iload 6, 2) := by decide +kernel
theorem dX6_rests_47 : decode cX6_rests 47 = .ok (.bipush 64, 2) := by decide +kernel
theorem dX6_rests_49 : decode cX6_rests 49 = .ok (.if_icmp .ge 39, 3) := by decide +kernel
theorem dX6_rests_52 : decode cX6_rests 52 = .ok (.aload_n 0, 1) := by decide +kernel
theorem dX6_rests_53 : decode cX6_rests 53 = .ok (.iload 6, 2) := by decide +kernel
theorem dX6_rests_55 : decode cX6_rests 55 = .ok (.iload_n 1, 1) := by decide +kernel
theorem dX6_rests_56 : decode cX6_rests 56 = .ok (.iload_n 2, 1) := by decide +kernel
theorem dX6_rests_57 : decode cX6_rests 57 = .ok (.invokevirtual 227, 3) := by decide +kernel
theorem dX6_rests_60 : decode cX6_rests 60 = .ok (.ifCond .eq 22, 3) := by decide +kernel
theorem dX6_rests_63 : decode cX6_rests 63 = .ok (.iinc 4 1, 3) := by decide +kernel
theorem dX6_rests_66 : decode cX6_rests 66 = .ok (.iload 5, 2) := by decide +kernel
theorem dX6_rests_68 : decode cX6_rests 68 = .ok (.bipush (-9), 2) := by decide +kernel
theorem dX6_rests_70 : decode cX6_rests 70 = .ok (.if_icmp .ne 8, 3) := by decide +kernel
theorem dX6_rests_73 : decode cX6_rests 73 = .ok (.iload 6, 2) := by decide +kernel
theorem dX6_rests_75 : decode cX6_rests 75 = .ok (.goto 5, 3) := by decide +kernel
theorem dX6_rests_78 : decode cX6_rests 78 = .ok (.iload 5, 2) := by decide +kernel
theorem dX6_rests_80 : decode cX6_rests 80 = .ok (.istore 5, 2) := by decide +kernel
theorem dX6_rests_82 : decode cX6_rests 82 = .ok (.iinc 6 1, 3) := by decide +kernel
theorem dX6_rests_85 : decode cX6_rests 85 = .ok (.goto (-40), 3) := by decide +kernel
theorem dX6_rests_88 : decode cX6_rests 88 = .ok (.iload_n 3, 1) := by decide +kernel
theorem dX6_rests_89 : decode cX6_rests 89 = .ok (.ifCond .ne 8, 3) := by decide +kernel
theorem dX6_rests_92 : decode cX6_rests 92 = .ok (.iload 4, 2) := by decide +kernel
theorem dX6_rests_94 : decode cX6_rests 94 = .ok (.goto 5, 3) := by decide +kernel
theorem dX6_rests_97 : decode cX6_rests 97 = .ok (.iload 5, 2) := by decide +kernel
theorem dX6_rests_99 : decode cX6_rests 99 = .ok (.ireturn, 1) := by decide +kernel
set_option maxRecDepth 20000 in
theorem ggX6_rate_X6_isHouse : GoodIn wsX6_rate wsX6_isHouse := goodIn_r _ [6, 7, 57, 58, 59, 60, 61, 62, 63, 64, 65, 66, 67, 68, 69, 70, 71, 72, 73] (by decide +kernel) (by decide +kernel)
set_option maxRecDepth 20000 in
theorem gX6_rate_X6_isHouse : GoodIn wsX6_rate (wsV RX6 91 RX6 yX6_isHouse wsX6_isHouse) := goodIn_app (goodIn_of _ (by decide +kernel)) ggX6_rate_X6_isHouse
set_option maxRecDepth 20000 in
theorem ggX6_rate_X6_asHouse : GoodIn wsX6_rate wsX6_asHouse := goodIn_r _ [11, 12, 7, 57, 58, 59, 60, 61, 62, 63, 64, 65, 66, 67, 68, 69, 70, 71, 72, 73] (by decide +kernel) (by decide +kernel)
set_option maxRecDepth 20000 in
theorem gX6_rate_X6_asHouse : GoodIn wsX6_rate (wsV RX6 232 RX6 yX6_asHouse wsX6_asHouse) := goodIn_app (goodIn_of _ (by decide +kernel)) ggX6_rate_X6_asHouse
set_option maxRecDepth 20000 in
theorem ggX6_rate_X6_asCook : GoodIn wsX6_rate wsX6_asCook := goodIn_r _ [16, 12, 17, 18, 8, 9, 10, 5, 11, 7, 19, 20, 21, 22, 23, 24, 25, 26, 27, 57, 58, 59, 60, 61, 62, 63, 64, 65, 66, 74, 75, 76, 77, 78, 79, 80, 81, 67, 68, 69, 70, 71, 72, 73, 82] (by decide +kernel) (by decide +kernel)
set_option maxRecDepth 20000 in
theorem gX6_rate_X6_asCook : GoodIn wsX6_rate (wsV RX6 235 RX6 yX6_asCook wsX6_asCook) := goodIn_app (goodIn_of _ (by decide +kernel)) ggX6_rate_X6_asCook
set_option maxRecDepth 20000 in
theorem ggX6_rate_X6_asWidow : GoodIn wsX6_rate wsX6_asWidow := goodIn_r _ [31, 12, 32, 18, 8, 9, 10, 5, 11, 7, 33, 34, 35, 36, 37, 38, 39, 40, 41, 57, 58, 59, 60, 61, 62, 63, 64, 65, 66, 67, 68, 69, 70, 71, 72, 73, 74, 75, 76, 77, 78, 79, 80, 81] (by decide +kernel) (by decide +kernel)
set_option maxRecDepth 20000 in
theorem gX6_rate_X6_asWidow : GoodIn wsX6_rate (wsV RX6 238 RX6 yX6_asWidow wsX6_asWidow) := goodIn_app (goodIn_of _ (by decide +kernel)) ggX6_rate_X6_asWidow
set_option maxRecDepth 20000 in
theorem ggX6_rate_X6_asBaker : GoodIn wsX6_rate wsX6_asBaker := goodIn_r _ [45, 12, 46, 13, 14, 15, 5, 16, 17, 18, 8, 9, 10, 11, 7, 19, 20, 21, 22, 23, 24, 25, 26, 27, 57, 58, 59, 60, 61, 62, 63, 64, 65, 66, 74, 75, 76, 77, 78, 79, 80, 81, 67, 68, 69, 70, 71, 72, 73, 82] (by decide +kernel) (by decide +kernel)
set_option maxRecDepth 20000 in
theorem gX6_rate_X6_asBaker : GoodIn wsX6_rate (wsV RX6 241 RX6 yX6_asBaker wsX6_asBaker) := goodIn_app (goodIn_of _ (by decide +kernel)) ggX6_rate_X6_asBaker
set_option maxRecDepth 20000 in
theorem ggX6_rate_X6_asParson : GoodIn wsX6_rate wsX6_asParson := goodIn_r _ [50, 12, 51, 28, 29, 30, 5, 31, 32, 18, 8, 9, 10, 11, 7, 33, 34, 35, 36, 37, 38, 39, 40, 41, 57, 58, 59, 60, 61, 62, 63, 64, 65, 66, 67, 68, 69, 70, 71, 72, 73, 74, 75, 76, 77, 78, 79, 80, 81] (by decide +kernel) (by decide +kernel)
set_option maxRecDepth 20000 in
theorem gX6_rate_X6_asParson : GoodIn wsX6_rate (wsV RX6 244 RX6 yX6_asParson wsX6_asParson) := goodIn_app (goodIn_of _ (by decide +kernel)) ggX6_rate_X6_asParson
set_option maxRecDepth 20000 in
theorem ggX6_rate_X6_asNewcomer : GoodIn wsX6_rate wsX6_asNewcomer := goodIn_r _ [55, 12, 56, 18, 8, 9, 10, 5, 11, 7, 57, 58, 59, 60, 61, 62, 63, 64, 65, 66, 74, 75, 76, 77, 78, 79, 80, 81, 67, 68, 69, 70, 71, 72, 73] (by decide +kernel) (by decide +kernel)
set_option maxRecDepth 20000 in
theorem gX6_rate_X6_asNewcomer : GoodIn wsX6_rate (wsV RX6 247 RX6 yX6_asNewcomer wsX6_asNewcomer) := goodIn_app (goodIn_of _ (by decide +kernel)) ggX6_rate_X6_asNewcomer
theorem dX6_rate_0 : decode cX6_rate 0 = .ok (.aload_n 0, 1) := by decide +kernel
theorem dX6_rate_1 : decode cX6_rate 1 = .ok (.iload_n 2, 1) := by decide +kernel
theorem dX6_rate_2 : decode cX6_rate 2 = .ok (.invokevirtual 91, 3) := by decide +kernel
theorem dX6_rate_5 : decode cX6_rate 5 = .ok (.ifCond .ne 6, 3) := by decide +kernel
theorem dX6_rate_8 : decode cX6_rate 8 = .ok (.ldc 231, 2) := by decide +kernel
theorem dX6_rate_10 : decode cX6_rate 10 = .ok (.ireturn, 1) := by decide +kernel
theorem dX6_rate_11 : decode cX6_rate 11 = .ok (.iload_n 1, 1) := by decide +kernel
theorem dX6_rate_12 : decode cX6_rate 12 = .ok (.tableswitch 76 0 5 #[40, 46, 52, 58, 64, 70], 40) := by decide +kernel
theorem dX6_rate_52 : decode cX6_rate 52 = .ok (.aload_n 0, 1) := by decide +kernel
theorem dX6_rate_53 : decode cX6_rate 53 = .ok (.iload_n 2, 1) := by decide +kernel
theorem dX6_rate_54 : decode cX6_rate 54 = .ok (.invokevirtual 232, 3) := by decide +kernel
theorem dX6_rate_57 : decode cX6_rate 57 = .ok (.ireturn, 1) := by decide +kernel
theorem dX6_rate_58 : decode cX6_rate 58 = .ok (.aload_n 0, 1) := by decide +kernel
theorem dX6_rate_59 : decode cX6_rate 59 = .ok (.iload_n 2, 1) := by decide +kernel
theorem dX6_rate_60 : decode cX6_rate 60 = .ok (.invokevirtual 235, 3) := by decide +kernel
theorem dX6_rate_63 : decode cX6_rate 63 = .ok (.ireturn, 1) := by decide +kernel
theorem dX6_rate_64 : decode cX6_rate 64 = .ok (.aload_n 0, 1) := by decide +kernel
theorem dX6_rate_65 : decode cX6_rate 65 = .ok (.iload_n 2, 1) := by decide +kernel
theorem dX6_rate_66 : decode cX6_rate 66 = .ok (.invokevirtual 238, 3) := by decide +kernel
theorem dX6_rate_69 : decode cX6_rate 69 = .ok (.ireturn, 1) := by decide +kernel
theorem dX6_rate_70 : decode cX6_rate 70 = .ok (.aload_n 0, 1) := by decide +kernel
theorem dX6_rate_71 : decode cX6_rate 71 = .ok (.iload_n 2, 1) := by decide +kernel
theorem dX6_rate_72 : decode cX6_rate 72 = .ok (.invokevirtual 241, 3) := by decide +kernel
theorem dX6_rate_75 : decode cX6_rate 75 = .ok (.ireturn, 1) := by decide +kernel
theorem dX6_rate_76 : decode cX6_rate 76 = .ok (.aload_n 0, 1) := by decide +kernel
theorem dX6_rate_77 : decode cX6_rate 77 = .ok (.iload_n 2, 1) := by decide +kernel
theorem dX6_rate_78 : decode cX6_rate 78 = .ok (.invokevirtual 244, 3) := by decide +kernel
theorem dX6_rate_81 : decode cX6_rate 81 = .ok (.ireturn, 1) := by decide +kernel
theorem dX6_rate_82 : decode cX6_rate 82 = .ok (.aload_n 0, 1) := by decide +kernel
theorem dX6_rate_83 : decode cX6_rate 83 = .ok (.iload_n 2, 1) := by decide +kernel
theorem dX6_rate_84 : decode cX6_rate 84 = .ok (.invokevirtual 247, 3) := by decide +kernel
theorem dX6_rate_87 : decode cX6_rate 87 = .ok (.ireturn, 1) := by decide +kernel
theorem dX6_rate_88 : decode cX6_rate 88 = .ok (.ldc 231, 2) := by decide +kernel
theorem dX6_rate_90 : decode cX6_rate 90 = .ok (.ireturn, 1) := by decide +kernel
set_option maxRecDepth 20000 in
theorem ggX6_keep_X6_isHalf : GoodIn wsX6_keep wsX6_isHalf := goodIn_r _ [6] (by decide +kernel) (by decide +kernel)
set_option maxRecDepth 20000 in
theorem gX6_keep_X6_isHalf : GoodIn wsX6_keep (va_wsS RX6 166 yX6_isHalf wsX6_isHalf) := goodIn_app (goodIn_of _ (by decide +kernel)) ggX6_keep_X6_isHalf
set_option maxRecDepth 20000 in
theorem ggX6_keep_X6_imageOf : GoodIn wsX6_keep wsX6_imageOf := goodIn_r _ [10, 11, 12, 35, 36, 37, 38, 39, 40, 41, 42, 43, 44] (by decide +kernel) (by decide +kernel)
set_option maxRecDepth 20000 in
theorem gX6_keep_X6_imageOf : GoodIn wsX6_keep (wsV RX6 250 RX6 yX6_imageOf wsX6_imageOf) := goodIn_app (goodIn_of _ (by decide +kernel)) ggX6_keep_X6_imageOf
set_option maxRecDepth 20000 in
theorem ggX6_keep_X1_copyFrom : GoodIn wsX6_keep wsX1_copyFrom := goodIn_r _ [16, 17, 18, 19, 20, 21, 22, 23, 24, 25, 26, 27, 28, 29, 30, 31, 32, 33, 34, 45, 46, 47, 48, 49, 50, 51, 52, 53] (by decide +kernel) (by decide +kernel)
set_option maxRecDepth 20000 in
theorem gX6_keep_X1_copyFrom_n254 : GoodIn wsX6_keep (wsX1_copyFrom) := ggX6_keep_X1_copyFrom
theorem dX6_keep_0 : decode cX6_keep 0 = .ok (.iload_n 1, 1) := by decide +kernel
theorem dX6_keep_1 : decode cX6_keep 1 = .ok (.invokestatic 166, 3) := by decide +kernel
theorem dX6_keep_4 : decode cX6_keep 4 = .ok (.ifCond .ne 5, 3) := by decide +kernel
theorem dX6_keep_7 : decode cX6_keep 7 = .ok (.iconst (-1), 1) := by decide +kernel
theorem dX6_keep_8 : decode cX6_keep 8 = .ok (.ireturn, 1) := by decide +kernel
theorem dX6_keep_9 : decode cX6_keep 9 = .ok (.aload_n 0, 1) := by decide +kernel
theorem dX6_keep_10 : decode cX6_keep 10 = .ok (.iload_n 1, 1) := by decide +kernel
theorem dX6_keep_11 : decode cX6_keep 11 = .ok (.invokevirtual 250, 3) := by decide +kernel
theorem dX6_keep_14 : decode cX6_keep 14 = .ok (.aload_n 0, 1) := by decide +kernel
theorem dX6_keep_15 : decode cX6_keep 15 = .ok (.getfield 26, 3) := by decide +kernel
theorem dX6_keep_18 : decode cX6_keep 18 = .ok (.invokevirtual 254, 3) := by decide +kernel
theorem dX6_keep_21 : decode cX6_keep 21 = .ok (.aload_n 0, 1) := by decide +kernel
theorem dX6_keep_22 : decode cX6_keep 22 = .ok (.dup, 1) := by decide +kernel
theorem dX6_keep_23 : decode cX6_keep 23 = .ok (.getfield 54, 3) := by decide +kernel
theorem dX6_keep_26 : decode cX6_keep 26 = .ok (.iconst 1, 1) := by decide +kernel
theorem dX6_keep_27 : decode cX6_keep 27 = .ok (.iload_n 1, 1) := by decide +kernel
theorem dX6_keep_28 : decode cX6_keep 28 = .ok (.ishl, 1) := by decide +kernel
theorem dX6_keep_29 : decode cX6_keep 29 = .ok (.ior, 1) := by decide +kernel
theorem dX6_keep_30 : decode cX6_keep 30 = .ok (.putfield 54, 3) := by decide +kernel
theorem dX6_keep_33 : decode cX6_keep 33 = .ok (.aload_n 0, 1) := by decide +kernel
theorem dX6_keep_34 : decode cX6_keep 34 = .ok (.getfield 26, 3) := by decide +kernel
theorem dX6_keep_37 : decode cX6_keep 37 = .ok (.getfield 163, 3) := by decide +kernel
theorem dX6_keep_40 : decode cX6_keep 40 = .ok (.ireturn, 1) := by decide +kernel
set_option maxRecDepth 20000 in
theorem ggX6_back_X6_isHalf : GoodIn wsX6_back wsX6_isHalf := goodIn_r _ [6] (by decide +kernel) (by decide +kernel)
set_option maxRecDepth 20000 in
theorem gX6_back_X6_isHalf : GoodIn wsX6_back (va_wsS RX6 166 yX6_isHalf wsX6_isHalf) := goodIn_app (goodIn_of _ (by decide +kernel)) ggX6_back_X6_isHalf
set_option maxRecDepth 20000 in
theorem ggX6_back_X6_imageOf : GoodIn wsX6_back wsX6_imageOf := goodIn_r _ [10, 11, 12, 35, 36, 37, 38, 39, 40, 41, 42, 43, 44] (by decide +kernel) (by decide +kernel)
set_option maxRecDepth 20000 in
theorem gX6_back_X6_imageOf : GoodIn wsX6_back (wsV RX6 250 RX6 yX6_imageOf wsX6_imageOf) := goodIn_app (goodIn_of _ (by decide +kernel)) ggX6_back_X6_imageOf
set_option maxRecDepth 20000 in
theorem ggX6_back_X1_copyFrom : GoodIn wsX6_back wsX1_copyFrom := goodIn_r _ [16, 17, 18, 19, 20, 21, 22, 23, 24, 25, 26, 27, 28, 29, 30, 31, 32, 33, 34, 45, 46, 47, 48, 49, 50, 51, 52, 53] (by decide +kernel) (by decide +kernel)
set_option maxRecDepth 20000 in
theorem gX6_back_X1_copyFrom_n254 : GoodIn wsX6_back (wsX1_copyFrom) := ggX6_back_X1_copyFrom
theorem dX6_back_0 : decode cX6_back 0 = .ok (.iload_n 1, 1) := by decide +kernel
theorem dX6_back_1 : decode cX6_back 1 = .ok (.invokestatic 166, 3) := by decide +kernel
theorem dX6_back_4 : decode cX6_back 4 = .ok (.ifCond .ne 5, 3) := by decide +kernel
theorem dX6_back_7 : decode cX6_back 7 = .ok (.iconst (-1), 1) := by decide +kernel
theorem dX6_back_8 : decode cX6_back 8 = .ok (.ireturn, 1) := by decide +kernel
theorem dX6_back_9 : decode cX6_back 9 = .ok (.aload_n 0, 1) := by decide +kernel
theorem dX6_back_10 : decode cX6_back 10 = .ok (.getfield 54, 3) := by decide +kernel
theorem dX6_back_13 : decode cX6_back 13 = .ok (.iload_n 1, 1) := by decide +kernel
theorem dX6_back_14 : decode cX6_back 14 = .ok (.ishr, 1) := by decide +kernel
theorem dX6_back_15 : decode cX6_back 15 = .ok (.iconst 1, 1) := by decide +kernel
theorem dX6_back_16 : decode cX6_back 16 = .ok (.iand, 1) := by decide +kernel
theorem dX6_back_17 : decode cX6_back 17 = .ok (.ifCond .ne 6, 3) := by decide +kernel
theorem dX6_back_20 : decode cX6_back 20 = .ok (.bipush (-2), 2) := by decide +kernel
theorem dX6_back_22 : decode cX6_back 22 = .ok (.ireturn, 1) := by decide +kernel
theorem dX6_back_23 : decode cX6_back 23 = .ok (.aload_n 0, 1) := by decide +kernel
theorem dX6_back_24 : decode cX6_back 24 = .ok (.getfield 26, 3) := by decide +kernel
theorem dX6_back_27 : decode cX6_back 27 = .ok (.aload_n 0, 1) := by decide +kernel
theorem dX6_back_28 : decode cX6_back 28 = .ok (.iload_n 1, 1) := by decide +kernel
theorem dX6_back_29 : decode cX6_back 29 = .ok (.invokevirtual 250, 3) := by decide +kernel
theorem dX6_back_32 : decode cX6_back 32 = .ok (.invokevirtual 254, 3) := by decide +kernel
theorem dX6_back_35 : decode cX6_back 35 = .ok (.aload_n 0, 1) := by decide +kernel
theorem dX6_back_36 : decode cX6_back 36 = .ok (.getfield 26, 3) := by decide +kernel
theorem dX6_back_39 : decode cX6_back 39 = .ok (.getfield 163, 3) := by decide +kernel
theorem dX6_back_42 : decode cX6_back 42 = .ok (.ireturn, 1) := by decide +kernel
set_option maxRecDepth 20000 in
theorem ggX6_count_X1_bringers : GoodIn wsX6_count wsX1_bringers := goodIn_r _ [7, 8, 9, 10, 5, 11, 12, 38, 39, 40, 41, 42, 43, 44, 45] (by decide +kernel) (by decide +kernel)
set_option maxRecDepth 20000 in
theorem gX6_count_X1_bringers_n260 : GoodIn wsX6_count (wsX1_bringers) := ggX6_count_X1_bringers
set_option maxRecDepth 20000 in
theorem ggX6_count_X1_spoonsLeft : GoodIn wsX6_count wsX1_spoonsLeft := goodIn_r _ [15, 16, 38, 39, 40, 41, 42, 43, 44, 45] (by decide +kernel) (by decide +kernel)
set_option maxRecDepth 20000 in
theorem gX6_count_X1_spoonsLeft_n263 : GoodIn wsX6_count (wsX1_spoonsLeft) := ggX6_count_X1_spoonsLeft
set_option maxRecDepth 20000 in
theorem ggX6_count_X1_toldHealths : GoodIn wsX6_count wsX1_toldHealths := goodIn_r _ [19, 20, 38, 39, 40, 41, 42, 43, 44, 45] (by decide +kernel) (by decide +kernel)
set_option maxRecDepth 20000 in
theorem gX6_count_X1_toldHealths_n266 : GoodIn wsX6_count (wsX1_toldHealths) := ggX6_count_X1_toldHealths
theorem dX6_count_0 : decode cX6_count 0 = .ok (.iload_n 1, 1) := by decide +kernel
theorem dX6_count_1 : decode cX6_count 1 = .ok (.tableswitch 87 0 5 #[39, 47, 55, 63, 71, 79], 39) := by decide +kernel
theorem dX6_count_40 : decode cX6_count 40 = .ok (.aload_n 0, 1) := by decide +kernel
theorem dX6_count_41 : decode cX6_count 41 = .ok (.getfield 19, 3) := by decide +kernel
theorem dX6_count_44 : decode cX6_count 44 = .ok (.getfield 257, 3) := by decide +kernel
theorem dX6_count_47 : decode cX6_count 47 = .ok (.ireturn, 1) := by decide +kernel
theorem dX6_count_48 : decode cX6_count 48 = .ok (.aload_n 0, 1) := by decide +kernel
theorem dX6_count_49 : decode cX6_count 49 = .ok (.getfield 26, 3) := by decide +kernel
theorem dX6_count_52 : decode cX6_count 52 = .ok (.invokevirtual 260, 3) := by decide +kernel
theorem dX6_count_55 : decode cX6_count 55 = .ok (.ireturn, 1) := by decide +kernel
theorem dX6_count_56 : decode cX6_count 56 = .ok (.aload_n 0, 1) := by decide +kernel
theorem dX6_count_57 : decode cX6_count 57 = .ok (.getfield 26, 3) := by decide +kernel
theorem dX6_count_60 : decode cX6_count 60 = .ok (.invokevirtual 263, 3) := by decide +kernel
theorem dX6_count_63 : decode cX6_count 63 = .ok (.ireturn, 1) := by decide +kernel
theorem dX6_count_64 : decode cX6_count 64 = .ok (.aload_n 0, 1) := by decide +kernel
theorem dX6_count_65 : decode cX6_count 65 = .ok (.getfield 26, 3) := by decide +kernel
theorem dX6_count_68 : decode cX6_count 68 = .ok (.invokevirtual 266, 3) := by decide +kernel
theorem dX6_count_71 : decode cX6_count 71 = .ok (.ireturn, 1) := by decide +kernel
theorem dX6_count_72 : decode cX6_count 72 = .ok (.aload_n 0, 1) := by decide +kernel
theorem dX6_count_73 : decode cX6_count 73 = .ok (.getfield 26, 3) := by decide +kernel
theorem dX6_count_76 : decode cX6_count 76 = .ok (.getfield 163, 3) := by decide +kernel
theorem dX6_count_79 : decode cX6_count 79 = .ok (.ireturn, 1) := by decide +kernel
theorem dX6_count_80 : decode cX6_count 80 = .ok (.aload_n 0, 1) := by decide +kernel
theorem dX6_count_81 : decode cX6_count 81 = .ok (.getfield 12, 3) := by decide +kernel
theorem dX6_count_84 : decode cX6_count 84 = .ok (.getfield 65, 3) := by decide +kernel
theorem dX6_count_87 : decode cX6_count 87 = .ok (.ireturn, 1) := by decide +kernel
theorem dX6_count_88 : decode cX6_count 88 = .ok (.iconst (-1), 1) := by decide +kernel
theorem dX6_count_89 : decode cX6_count 89 = .ok (.ireturn, 1) := by decide +kernel
theorem dX6_trace_0 : decode cX6_trace 0 = .ok (.aload_n 0, 1) := by decide +kernel
theorem dX6_trace_1 : decode cX6_trace 1 = .ok (.getfield 58, 3) := by decide +kernel
theorem dX6_trace_4 : decode cX6_trace 4 = .ok (.lreturn, 1) := by decide +kernel
theorem dX6_isHouse_0 : decode cX6_isHouse 0 = .ok (.iload_n 1, 1) := by decide +kernel
theorem dX6_isHouse_1 : decode cX6_isHouse 1 = .ok (.ifCond .lt 18, 3) := by decide +kernel
theorem dX6_isHouse_4 : decode cX6_isHouse 4 = .ok (.iload_n 1, 1) := by decide +kernel
theorem dX6_isHouse_5 : decode cX6_isHouse 5 = .ok (.aload_n 0, 1) := by decide +kernel
theorem dX6_isHouse_6 : decode cX6_isHouse 6 = .ok (.getfield 19, 3) := by decide +kernel
theorem dX6_isHouse_9 : decode cX6_isHouse 9 = .ok (.getfield 257, 3) := by decide +kernel
theorem dX6_isHouse_12 : decode cX6_isHouse 12 = .ok (.if_icmp .ge 7, 3) := by decide +kernel
theorem dX6_isHouse_15 : decode cX6_isHouse 15 = .ok (.iconst 1, 1) := by decide +kernel
theorem dX6_isHouse_16 : decode cX6_isHouse 16 = .ok (.goto 4, 3) := by decide +kernel
theorem dX6_isHouse_19 : decode cX6_isHouse 19 = .ok (.iconst 0, 1) := by decide +kernel
theorem dX6_isHouse_20 : decode cX6_isHouse 20 = .ok (.ireturn, 1) := by decide +kernel
theorem dX6_isSort_0 : decode cX6_isSort 0 = .ok (.iload_n 0, 1) := by decide +kernel
theorem dX6_isSort_1 : decode cX6_isSort 1 = .ok (.ifCond .lt 12, 3) := by decide +kernel
theorem dX6_isSort_4 : decode cX6_isSort 4 = .ok (.iload_n 0, 1) := by decide +kernel
theorem dX6_isSort_5 : decode cX6_isSort 5 = .ok (.iconst 4, 1) := by decide +kernel
theorem dX6_isSort_6 : decode cX6_isSort 6 = .ok (.if_icmp .ge 7, 3) := by decide +kernel
theorem dX6_isSort_9 : decode cX6_isSort 9 = .ok (.iconst 1, 1) := by decide +kernel
theorem dX6_isSort_10 : decode cX6_isSort 10 = .ok (.goto 4, 3) := by decide +kernel
theorem dX6_isSort_13 : decode cX6_isSort 13 = .ok (.iconst 0, 1) := by decide +kernel
theorem dX6_isSort_14 : decode cX6_isSort 14 = .ok (.ireturn, 1) := by decide +kernel
theorem dX6_isHalf_0 : decode cX6_isHalf 0 = .ok (.iload_n 0, 1) := by decide +kernel
theorem dX6_isHalf_1 : decode cX6_isHalf 1 = .ok (.ifCond .eq 8, 3) := by decide +kernel
theorem dX6_isHalf_4 : decode cX6_isHalf 4 = .ok (.iload_n 0, 1) := by decide +kernel
theorem dX6_isHalf_5 : decode cX6_isHalf 5 = .ok (.iconst 1, 1) := by decide +kernel
theorem dX6_isHalf_6 : decode cX6_isHalf 6 = .ok (.if_icmp .ne 7, 3) := by decide +kernel
theorem dX6_isHalf_9 : decode cX6_isHalf 9 = .ok (.iconst 1, 1) := by decide +kernel
theorem dX6_isHalf_10 : decode cX6_isHalf 10 = .ok (.goto 4, 3) := by decide +kernel
theorem dX6_isHalf_13 : decode cX6_isHalf 13 = .ok (.iconst 0, 1) := by decide +kernel
theorem dX6_isHalf_14 : decode cX6_isHalf 14 = .ok (.ireturn, 1) := by decide +kernel
theorem dX6_imageOf_0 : decode cX6_imageOf 0 = .ok (.iload_n 1, 1) := by decide +kernel
theorem dX6_imageOf_1 : decode cX6_imageOf 1 = .ok (.ifCond .ne 10, 3) := by decide +kernel
theorem dX6_imageOf_4 : decode cX6_imageOf 4 = .ok (.aload_n 0, 1) := by decide +kernel
theorem dX6_imageOf_5 : decode cX6_imageOf 5 = .ok (.getfield 30, 3) := by decide +kernel
theorem dX6_imageOf_8 : decode cX6_imageOf 8 = .ok (.goto 7, 3) := by decide +kernel
theorem dX6_imageOf_11 : decode cX6_imageOf 11 = .ok (.aload_n 0, 1) := by decide +kernel
theorem dX6_imageOf_12 : decode cX6_imageOf 12 = .ok (.getfield 33, 3) := by decide +kernel
theorem dX6_imageOf_15 : decode cX6_imageOf 15 = .ok (.areturn, 1) := by decide +kernel
theorem dX6_dish_0 : decode cX6_dish 0 = .ok (.aload_n 0, 1) := by decide +kernel
theorem dX6_dish_1 : decode cX6_dish 1 = .ok (.getfield 19, 3) := by decide +kernel
theorem dX6_dish_4 : decode cX6_dish 4 = .ok (.getfield 95, 3) := by decide +kernel
theorem dX6_dish_7 : decode cX6_dish 7 = .ok (.iload_n 1, 1) := by decide +kernel
theorem dX6_dish_8 : decode cX6_dish 8 = .ok (.iaload, 1) := by decide +kernel
theorem dX6_dish_9 : decode cX6_dish 9 = .ok (.aload_n 0, 1) := by decide +kernel
theorem dX6_dish_10 : decode cX6_dish 10 = .ok (.getfield 19, 3) := by decide +kernel
theorem dX6_dish_13 : decode cX6_dish 13 = .ok (.getfield 114, 3) := by decide +kernel
theorem dX6_dish_16 : decode cX6_dish 16 = .ok (.iadd, 1) := by decide +kernel
theorem dX6_dish_17 : decode cX6_dish 17 = .ok (.ireturn, 1) := by decide +kernel
set_option maxRecDepth 20000 in
theorem ggX6_spoonsBrought_X6_dish : GoodIn wsX6_spoonsBrought wsX6_dish := goodIn_r _ [6, 7, 8, 9, 10, 11, 12, 13, 14, 15, 16, 17, 26, 27, 28, 29, 30, 31, 32] (by decide +kernel) (by decide +kernel)
set_option maxRecDepth 20000 in
theorem gX6_spoonsBrought_X6_dish : GoodIn wsX6_spoonsBrought (wsV RX6 127 RX6 yX6_dish wsX6_dish) := goodIn_app (goodIn_of _ (by decide +kernel)) ggX6_spoonsBrought_X6_dish
theorem dX6_spoonsBrought_0 : decode cX6_spoonsBrought 0 = .ok (.iconst 0, 1) := by decide +kernel
theorem dX6_spoonsBrought_1 : decode cX6_spoonsBrought 1 = .ok (.istore_n 2, 1) := by decide +kernel
theorem dX6_spoonsBrought_2 : decode cX6_spoonsBrought 2 = .ok (.iconst 0, 1) := by decide +kernel
theorem dX6_spoonsBrought_3 : decode cX6_spoonsBrought 3 = .ok (.istore_n 3, 1) := by decide +kernel
theorem dX6_spoonsBrought_4 : decode cX6_spoonsBrought 4 = .ok (.iload_n 3, 1) := by decide +kernel
theorem dX6_spoonsBrought_5 : decode cX6_spoonsBrought 5 = .ok (.bipush 6, 2) := by decide +kernel
theorem dX6_spoonsBrought_7 : decode cX6_spoonsBrought 7 = .ok (.if_icmp .ge 30, 3) := by decide +kernel
theorem dX6_spoonsBrought_10 : decode cX6_spoonsBrought 10 = .ok (.aload_n 0, 1) := by decide +kernel
theorem dX6_spoonsBrought_11 : decode cX6_spoonsBrought 11 = .ok (.getfield 26, 3) := by decide +kernel
theorem dX6_spoonsBrought_14 : decode cX6_spoonsBrought 14 = .ok (.getfield 101, 3) := by decide +kernel
theorem dX6_spoonsBrought_17 : decode cX6_spoonsBrought 17 = .ok (.iload_n 3, 1) := by decide +kernel
theorem dX6_spoonsBrought_18 : decode cX6_spoonsBrought 18 = .ok (.iaload, 1) := by decide +kernel
theorem dX6_spoonsBrought_19 : decode cX6_spoonsBrought 19 = .ok (.iload_n 1, 1) := by decide +kernel
theorem dX6_spoonsBrought_20 : decode cX6_spoonsBrought 20 = .ok (.if_icmp .ne 11, 3) := by decide +kernel
theorem dX6_spoonsBrought_23 : decode cX6_spoonsBrought 23 = .ok (.iload_n 2, 1) := by decide +kernel
theorem dX6_spoonsBrought_24 : decode cX6_spoonsBrought 24 = .ok (.aload_n 0, 1) := by decide +kernel
theorem dX6_spoonsBrought_25 : decode cX6_spoonsBrought 25 = .ok (.iload_n 3, 1) := by decide +kernel
theorem dX6_spoonsBrought_26 : decode cX6_spoonsBrought 26 = .ok (.invokevirtual 127, 3) := by decide +kernel
theorem dX6_spoonsBrought_29 : decode cX6_spoonsBrought 29 = .ok (.iadd, 1) := by decide +kernel
theorem dX6_spoonsBrought_30 : decode cX6_spoonsBrought 30 = .ok (.istore_n 2, 1) := by decide +kernel
theorem dX6_spoonsBrought_31 : decode cX6_spoonsBrought 31 = .ok (.iinc 3 1, 3) := by decide +kernel
theorem dX6_spoonsBrought_34 : decode cX6_spoonsBrought 34 = .ok (.goto (-30), 3) := by decide +kernel
theorem dX6_spoonsBrought_37 : decode cX6_spoonsBrought 37 = .ok (.iload_n 2, 1) := by decide +kernel
theorem dX6_spoonsBrought_38 : decode cX6_spoonsBrought 38 = .ok (.ireturn, 1) := by decide +kernel
set_option maxRecDepth 20000 in
theorem ggX6_chosen_X1_drawn : GoodIn wsX6_chosen wsX1_drawn := goodIn_r _ [6, 7, 8, 9, 10, 11, 12, 13, 14, 15, 16, 17, 18, 51, 52, 53, 54, 55, 56, 57, 58, 59] (by decide +kernel) (by decide +kernel)
set_option maxRecDepth 20000 in
theorem gX6_chosen_X1_drawn_n269 : GoodIn wsX6_chosen (wsX1_drawn) := ggX6_chosen_X1_drawn
set_option maxRecDepth 20000 in
theorem ggX6_chosen_X4_nextFrom : GoodIn wsX6_chosen wsX4_nextFrom := goodIn_r _ [21, 14, 15, 16, 11, 17, 18, 59] (by decide +kernel) (by decide +kernel)
set_option maxRecDepth 20000 in
theorem gX6_chosen_X4_nextFrom_n272 : GoodIn wsX6_chosen (wsX4_nextFrom) := ggX6_chosen_X4_nextFrom
set_option maxRecDepth 20000 in
theorem ggX6_chosen_X1_seenOnBoard : GoodIn wsX6_chosen wsX1_seenOnBoard := goodIn_r _ [24, 7, 15, 11, 16, 17, 18, 25, 26, 27, 4, 28, 29, 30, 31, 32, 33, 51, 52, 53, 54, 55, 56, 57, 58, 59] (by decide +kernel) (by decide +kernel)
set_option maxRecDepth 20000 in
theorem gX6_chosen_X1_seenOnBoard_n275 : GoodIn wsX6_chosen (wsX1_seenOnBoard) := ggX6_chosen_X1_seenOnBoard
theorem dX6_chosen_0 : decode cX6_chosen 0 = .ok (.aload_n 0, 1) := by decide +kernel
theorem dX6_chosen_1 : decode cX6_chosen 1 = .ok (.getfield 19, 3) := by decide +kernel
theorem dX6_chosen_4 : decode cX6_chosen 4 = .ok (.getfield 111, 3) := by decide +kernel
theorem dX6_chosen_7 : decode cX6_chosen 7 = .ok (.lookupswitch 49 #[(0, 25), (1, 34)], 25) := by decide +kernel
theorem dX6_chosen_32 : decode cX6_chosen 32 = .ok (.aload_n 0, 1) := by decide +kernel
theorem dX6_chosen_33 : decode cX6_chosen 33 = .ok (.getfield 26, 3) := by decide +kernel
theorem dX6_chosen_36 : decode cX6_chosen 36 = .ok (.iload_n 1, 1) := by decide +kernel
theorem dX6_chosen_37 : decode cX6_chosen 37 = .ok (.invokevirtual 269, 3) := by decide +kernel
theorem dX6_chosen_40 : decode cX6_chosen 40 = .ok (.ireturn, 1) := by decide +kernel
theorem dX6_chosen_41 : decode cX6_chosen 41 = .ok (.aload_n 0, 1) := by decide +kernel
theorem dX6_chosen_42 : decode cX6_chosen 42 = .ok (.getfield 26, 3) := by decide +kernel
theorem dX6_chosen_45 : decode cX6_chosen 45 = .ok (.getfield 104, 3) := by decide +kernel
theorem dX6_chosen_48 : decode cX6_chosen 48 = .ok (.iload_n 1, 1) := by decide +kernel
theorem dX6_chosen_49 : decode cX6_chosen 49 = .ok (.iconst 4, 1) := by decide +kernel
theorem dX6_chosen_50 : decode cX6_chosen 50 = .ok (.irem, 1) := by decide +kernel
theorem dX6_chosen_51 : decode cX6_chosen 51 = .ok (.iload_n 1, 1) := by decide +kernel
theorem dX6_chosen_52 : decode cX6_chosen 52 = .ok (.invokevirtual 272, 3) := by decide +kernel
theorem dX6_chosen_55 : decode cX6_chosen 55 = .ok (.ireturn, 1) := by decide +kernel
theorem dX6_chosen_56 : decode cX6_chosen 56 = .ok (.aload_n 0, 1) := by decide +kernel
theorem dX6_chosen_57 : decode cX6_chosen 57 = .ok (.getfield 26, 3) := by decide +kernel
theorem dX6_chosen_60 : decode cX6_chosen 60 = .ok (.iload_n 1, 1) := by decide +kernel
theorem dX6_chosen_61 : decode cX6_chosen 61 = .ok (.invokevirtual 275, 3) := by decide +kernel
theorem dX6_chosen_64 : decode cX6_chosen 64 = .ok (.ireturn, 1) := by decide +kernel
set_option maxRecDepth 20000 in
theorem ggX6_crossing_X6_spoonsBrought : GoodIn wsX6_crossing wsX6_spoonsBrought := goodIn_r _ [6, 7, 8, 9, 10, 5, 11, 1, 12, 13, 14, 15, 16, 17, 18, 19, 20, 21, 29, 30, 31, 32, 33, 34, 35, 36, 22, 23, 24, 25, 26, 27, 28] (by decide +kernel) (by decide +kernel)
set_option maxRecDepth 20000 in
theorem gX6_crossing_X6_spoonsBrought : GoodIn wsX6_crossing (wsV RX6 138 RX6 yX6_spoonsBrought wsX6_spoonsBrought) := goodIn_app (goodIn_of _ (by decide +kernel)) ggX6_crossing_X6_spoonsBrought
theorem dX6_crossing_0 : decode cX6_crossing 0 = .ok (.iconst 0, 1) := by decide +kernel
theorem dX6_crossing_1 : decode cX6_crossing 1 = .ok (.istore_n 2, 1) := by decide +kernel
theorem dX6_crossing_2 : decode cX6_crossing 2 = .ok (.iconst 0, 1) := by decide +kernel
theorem dX6_crossing_3 : decode cX6_crossing 3 = .ok (.istore_n 3, 1) := by decide +kernel
theorem dX6_crossing_4 : decode cX6_crossing 4 = .ok (.iload_n 3, 1) := by decide +kernel
theorem dX6_crossing_5 : decode cX6_crossing 5 = .ok (.iconst 4, 1) := by decide +kernel
theorem dX6_crossing_6 : decode cX6_crossing 6 = .ok (.if_icmp .ge 25, 3) := by decide +kernel
theorem dX6_crossing_9 : decode cX6_crossing 9 = .ok (.iload_n 1, 1) := by decide +kernel
theorem dX6_crossing_10 : decode cX6_crossing 10 = .ok (.iload_n 3, 1) := by decide +kernel
theorem dX6_crossing_11 : decode cX6_crossing 11 = .ok (.ishr, 1) := by decide +kernel
theorem dX6_crossing_12 : decode cX6_crossing 12 = .ok (.iconst 1, 1) := by decide +kernel
theorem dX6_crossing_13 : decode cX6_crossing 13 = .ok (.iand, 1) := by decide +kernel
theorem dX6_crossing_14 : decode cX6_crossing 14 = .ok (.ifCond .ne 11, 3) := by decide +kernel
theorem dX6_crossing_17 : decode cX6_crossing 17 = .ok (.iload_n 2, 1) := by decide +kernel
theorem dX6_crossing_18 : decode cX6_crossing 18 = .ok (.aload_n 0, 1) := by decide +kernel
theorem dX6_crossing_19 : decode cX6_crossing 19 = .ok (.iload_n 3, 1) := by decide +kernel
theorem dX6_crossing_20 : decode cX6_crossing 20 = .ok (.invokevirtual 138, 3) := by decide +kernel
theorem dX6_crossing_23 : decode cX6_crossing 23 = .ok (.iadd, 1) := by decide +kernel
theorem dX6_crossing_24 : decode cX6_crossing 24 = .ok (.istore_n 2, 1) := by decide +kernel
theorem dX6_crossing_25 : decode cX6_crossing 25 = .ok (.iinc 3 1, 3) := by decide +kernel
theorem dX6_crossing_28 : decode cX6_crossing 28 = .ok (.goto (-24), 3) := by decide +kernel
theorem dX6_crossing_31 : decode cX6_crossing 31 = .ok (.iconst 0, 1) := by decide +kernel
theorem dX6_crossing_32 : decode cX6_crossing 32 = .ok (.istore_n 3, 1) := by decide +kernel
theorem dX6_crossing_33 : decode cX6_crossing 33 = .ok (.iload_n 3, 1) := by decide +kernel
theorem dX6_crossing_34 : decode cX6_crossing 34 = .ok (.bipush 6, 2) := by decide +kernel
theorem dX6_crossing_36 : decode cX6_crossing 36 = .ok (.if_icmp .ge 37, 3) := by decide +kernel
theorem dX6_crossing_39 : decode cX6_crossing 39 = .ok (.iload_n 1, 1) := by decide +kernel
theorem dX6_crossing_40 : decode cX6_crossing 40 = .ok (.aload_n 0, 1) := by decide +kernel
theorem dX6_crossing_41 : decode cX6_crossing 41 = .ok (.getfield 19, 3) := by decide +kernel
theorem dX6_crossing_44 : decode cX6_crossing 44 = .ok (.getfield 98, 3) := by decide +kernel
theorem dX6_crossing_47 : decode cX6_crossing 47 = .ok (.iload_n 3, 1) := by decide +kernel
theorem dX6_crossing_48 : decode cX6_crossing 48 = .ok (.iaload, 1) := by decide +kernel
theorem dX6_crossing_49 : decode cX6_crossing 49 = .ok (.iconst (-1), 1) := by decide +kernel
theorem dX6_crossing_50 : decode cX6_crossing 50 = .ok (.ixor, 1) := by decide +kernel
theorem dX6_crossing_51 : decode cX6_crossing 51 = .ok (.iand, 1) := by decide +kernel
theorem dX6_crossing_52 : decode cX6_crossing 52 = .ok (.ifCond .eq 15, 3) := by decide +kernel
theorem dX6_crossing_55 : decode cX6_crossing 55 = .ok (.iload_n 2, 1) := by decide +kernel
theorem dX6_crossing_56 : decode cX6_crossing 56 = .ok (.aload_n 0, 1) := by decide +kernel
theorem dX6_crossing_57 : decode cX6_crossing 57 = .ok (.getfield 19, 3) := by decide +kernel
theorem dX6_crossing_60 : decode cX6_crossing 60 = .ok (.getfield 95, 3) := by decide +kernel
theorem dX6_crossing_63 : decode cX6_crossing 63 = .ok (.iload_n 3, 1) := by decide +kernel
theorem dX6_crossing_64 : decode cX6_crossing 64 = .ok (.iaload, 1) := by decide +kernel
theorem dX6_crossing_65 : decode cX6_crossing 65 = .ok (.iadd, 1) := by decide +kernel
theorem dX6_crossing_66 : decode cX6_crossing 66 = .ok (.istore_n 2, 1) := by decide +kernel
theorem dX6_crossing_67 : decode cX6_crossing 67 = .ok (.iinc 3 1, 3) := by decide +kernel
theorem dX6_crossing_70 : decode cX6_crossing 70 = .ok (.goto (-37), 3) := by decide +kernel
theorem dX6_crossing_73 : decode cX6_crossing 73 = .ok (.iload_n 2, 1) := by decide +kernel
theorem dX6_crossing_74 : decode cX6_crossing 74 = .ok (.ireturn, 1) := by decide +kernel
set_option maxRecDepth 20000 in
theorem ggX6_isSuspect_X1_spoonsOf : GoodIn wsX6_isSuspect wsX1_spoonsOf := goodIn_r _ [5, 6, 17, 18, 19, 20, 21, 22, 23, 24] (by decide +kernel) (by decide +kernel)
set_option maxRecDepth 20000 in
theorem gX6_isSuspect_X1_spoonsOf_n151 : GoodIn wsX6_isSuspect (wsX1_spoonsOf) := ggX6_isSuspect_X1_spoonsOf
theorem dX6_isSuspect_0 : decode cX6_isSuspect 0 = .ok (.iconst 0, 1) := by decide +kernel
theorem dX6_isSuspect_1 : decode cX6_isSuspect 1 = .ok (.istore_n 2, 1) := by decide +kernel
theorem dX6_isSuspect_2 : decode cX6_isSuspect 2 = .ok (.iload_n 2, 1) := by decide +kernel
theorem dX6_isSuspect_3 : decode cX6_isSuspect 3 = .ok (.bipush 6, 2) := by decide +kernel
theorem dX6_isSuspect_5 : decode cX6_isSuspect 5 = .ok (.if_icmp .ge 63, 3) := by decide +kernel
theorem dX6_isSuspect_8 : decode cX6_isSuspect 8 = .ok (.aload_n 0, 1) := by decide +kernel
theorem dX6_isSuspect_9 : decode cX6_isSuspect 9 = .ok (.getfield 26, 3) := by decide +kernel
theorem dX6_isSuspect_12 : decode cX6_isSuspect 12 = .ok (.iload_n 2, 1) := by decide +kernel
theorem dX6_isSuspect_13 : decode cX6_isSuspect 13 = .ok (.iload_n 1, 1) := by decide +kernel
theorem dX6_isSuspect_14 : decode cX6_isSuspect 14 = .ok (.invokevirtual 151, 3) := by decide +kernel
theorem dX6_isSuspect_17 : decode cX6_isSuspect 17 = .ok (.ifCond .le 7, 3) := by decide +kernel
theorem dX6_isSuspect_20 : decode cX6_isSuspect 20 = .ok (.iconst 1, 1) := by decide +kernel
theorem dX6_isSuspect_21 : decode cX6_isSuspect 21 = .ok (.goto 4, 3) := by decide +kernel
theorem dX6_isSuspect_24 : decode cX6_isSuspect 24 = .ok (.iconst 0, 1) := by decide +kernel
theorem dX6_isSuspect_25 : decode cX6_isSuspect 25 = .ok (.istore_n 3, 1) := by decide +kernel
theorem dX6_isSuspect_26 : decode cX6_isSuspect 26 = .ok (.aload_n 0, 1) := by decide +kernel
theorem dX6_isSuspect_27 : decode cX6_isSuspect 27 = .ok (.getfield 26, 3) := by decide +kernel
theorem dX6_isSuspect_30 : decode cX6_isSuspect 30 = .ok (.getfield 218, 3) := by decide +kernel
theorem dX6_isSuspect_33 : decode cX6_isSuspect 33 = .ok (.iload_n 2, 1) := by decide +kernel
theorem dX6_isSuspect_34 : decode cX6_isSuspect 34 = .ok (.iaload, 1) := by decide +kernel
theorem dX6_isSuspect_35 : decode cX6_isSuspect 35 = .ok (.iconst 2, 1) := by decide +kernel
theorem dX6_isSuspect_36 : decode cX6_isSuspect 36 = .ok (.if_icmp .ne 7, 3) := by decide +kernel
theorem dX6_isSuspect_39 : decode cX6_isSuspect 39 = .ok (.iload_n 3, 1) := by decide +kernel
theorem dX6_isSuspect_40 : decode cX6_isSuspect 40 = .ok (.ifCond .eq 20, 3) := by decide +kernel
theorem dX6_isSuspect_43 : decode cX6_isSuspect 43 = .ok (.aload_n 0, 1) := by decide +kernel
theorem dX6_isSuspect_44 : decode cX6_isSuspect 44 = .ok (.getfield 26, 3) := by decide +kernel
theorem dX6_isSuspect_47 : decode cX6_isSuspect 47 = .ok (.getfield 218, 3) := by decide +kernel
theorem dX6_isSuspect_50 : decode cX6_isSuspect 50 = .ok (.iload_n 2, 1) := by decide +kernel
theorem dX6_isSuspect_51 : decode cX6_isSuspect 51 = .ok (.iaload, 1) := by decide +kernel
theorem dX6_isSuspect_52 : decode cX6_isSuspect 52 = .ok (.iconst 1, 1) := by decide +kernel
theorem dX6_isSuspect_53 : decode cX6_isSuspect 53 = .ok (.if_icmp .ne 9, 3) := by decide +kernel
theorem dX6_isSuspect_56 : decode cX6_isSuspect 56 = .ok (.iload_n 3, 1) := by decide +kernel
theorem dX6_isSuspect_57 : decode cX6_isSuspect 57 = .ok (.ifCond .eq 5, 3) := by decide +kernel
theorem dX6_isSuspect_60 : decode cX6_isSuspect 60 = .ok (.iconst 0, 1) := by decide +kernel
theorem dX6_isSuspect_61 : decode cX6_isSuspect 61 = .ok (.ireturn, 1) := by decide +kernel
theorem dX6_isSuspect_62 : decode cX6_isSuspect 62 = .ok (.iinc 2 1, 3) := by decide +kernel
theorem dX6_isSuspect_65 : decode cX6_isSuspect 65 = .ok (.goto (-63), 3) := by decide +kernel
theorem dX6_isSuspect_68 : decode cX6_isSuspect 68 = .ok (.iconst 1, 1) := by decide +kernel
theorem dX6_isSuspect_69 : decode cX6_isSuspect 69 = .ok (.ireturn, 1) := by decide +kernel
set_option maxRecDepth 20000 in
theorem ggX6_noteFavourites_X4_heaviest : GoodIn wsX6_noteFavourites wsX4_heaviest := goodIn_r _ [6, 7, 8, 9, 4, 10, 11, 30] (by decide +kernel) (by decide +kernel)
set_option maxRecDepth 20000 in
theorem gX6_noteFavourites_X4_heaviest_n278 : GoodIn wsX6_noteFavourites (wsX4_heaviest) := ggX6_noteFavourites_X4_heaviest
theorem dX6_noteFavourites_0 : decode cX6_noteFavourites 0 = .ok (.iconst 0, 1) := by decide +kernel
theorem dX6_noteFavourites_1 : decode cX6_noteFavourites 1 = .ok (.istore_n 1, 1) := by decide +kernel
theorem dX6_noteFavourites_2 : decode cX6_noteFavourites 2 = .ok (.iload_n 1, 1) := by decide +kernel
theorem dX6_noteFavourites_3 : decode cX6_noteFavourites 3 = .ok (.bipush 6, 2) := by decide +kernel
theorem dX6_noteFavourites_5 : decode cX6_noteFavourites 5 = .ok (.if_icmp .ge 26, 3) := by decide +kernel
theorem dX6_noteFavourites_8 : decode cX6_noteFavourites 8 = .ok (.aload_n 0, 1) := by decide +kernel
theorem dX6_noteFavourites_9 : decode cX6_noteFavourites 9 = .ok (.getfield 50, 3) := by decide +kernel
theorem dX6_noteFavourites_12 : decode cX6_noteFavourites 12 = .ok (.iload_n 1, 1) := by decide +kernel
theorem dX6_noteFavourites_13 : decode cX6_noteFavourites 13 = .ok (.aload_n 0, 1) := by decide +kernel
theorem dX6_noteFavourites_14 : decode cX6_noteFavourites 14 = .ok (.getfield 26, 3) := by decide +kernel
theorem dX6_noteFavourites_17 : decode cX6_noteFavourites 17 = .ok (.getfield 104, 3) := by decide +kernel
theorem dX6_noteFavourites_20 : decode cX6_noteFavourites 20 = .ok (.iload_n 1, 1) := by decide +kernel
theorem dX6_noteFavourites_21 : decode cX6_noteFavourites 21 = .ok (.invokevirtual 278, 3) := by decide +kernel
theorem dX6_noteFavourites_24 : decode cX6_noteFavourites 24 = .ok (.iastore, 1) := by decide +kernel
theorem dX6_noteFavourites_25 : decode cX6_noteFavourites 25 = .ok (.iinc 1 1, 3) := by decide +kernel
theorem dX6_noteFavourites_28 : decode cX6_noteFavourites 28 = .ok (.goto (-26), 3) := by decide +kernel
theorem dX6_noteFavourites_31 : decode cX6_noteFavourites 31 = .ok (.return_, 1) := by decide +kernel
set_option maxRecDepth 20000 in
theorem ggX6_isRest_X6_isThereWithout : GoodIn wsX6_isRest wsX6_isThereWithout := goodIn_r _ [6, 1, 7, 8, 9, 10, 11, 12, 13, 14, 15, 16] (by decide +kernel) (by decide +kernel)
set_option maxRecDepth 20000 in
theorem gX6_isRest_X6_isThereWithout : GoodIn wsX6_isRest (wsV RX6 281 RX6 yX6_isThereWithout wsX6_isThereWithout) := goodIn_app (goodIn_of _ (by decide +kernel)) ggX6_isRest_X6_isThereWithout
theorem dX6_isRest_0 : decode cX6_isRest 0 = .ok (.iconst 0, 1) := by decide +kernel
theorem dX6_isRest_1 : decode cX6_isRest 1 = .ok (.istore 4, 2) := by decide +kernel
theorem dX6_isRest_3 : decode cX6_isRest 3 = .ok (.iload 4, 2) := by decide +kernel
theorem dX6_isRest_5 : decode cX6_isRest 5 = .ok (.bipush 6, 2) := by decide +kernel
theorem dX6_isRest_7 : decode cX6_isRest 7 = .ok (.if_icmp .ge 94, 3) := by decide +kernel
theorem dX6_isRest_10 : decode cX6_isRest 10 = .ok (.iload_n 1, 1) := by decide +kernel
theorem dX6_isRest_11 : decode cX6_isRest 11 = .ok (.iload 4, 2) := by decide +kernel
theorem dX6_isRest_13 : decode cX6_isRest 13 = .ok (.ishr, 1) := by decide +kernel
theorem dX6_isRest_14 : decode cX6_isRest 14 = .ok (.iconst 1, 1) := by decide +kernel
theorem dX6_isRest_15 : decode cX6_isRest 15 = .ok (.iand, 1) := by decide +kernel
theorem dX6_isRest_16 : decode cX6_isRest 16 = .ok (.iconst 1, 1) := by decide +kernel
theorem dX6_isRest_17 : decode cX6_isRest 17 = .ok (.if_icmp .ne 7, 3) := by decide +kernel
theorem dX6_isRest_20 : decode cX6_isRest 20 = .ok (.iconst 1, 1) := by decide +kernel
theorem dX6_isRest_21 : decode cX6_isRest 21 = .ok (.goto 4, 3) := by decide +kernel
theorem dX6_isRest_24 : decode cX6_isRest 24 = .ok (.iconst 0, 1) := by decide +kernel
theorem dX6_isRest_25 : decode cX6_isRest 25 = .ok (.istore 5, 2) := by decide +kernel
theorem dX6_isRest_27 : decode cX6_isRest 27 = .ok (.aload_n 0, 1) := by decide +kernel
theorem dX6_isRest_28 : decode cX6_isRest 28 = .ok (.getfield 50, 3) := by decide +kernel
theorem dX6_isRest_31 : decode cX6_isRest 31 = .ok (.iload 4, 2) := by decide +kernel
theorem dX6_isRest_33 : decode cX6_isRest 33 = .ok (.iaload, 1) := by decide +kernel
theorem dX6_isRest_34 : decode cX6_isRest 34 = .ok (.bipush (-9), 2) := by decide +kernel
theorem dX6_isRest_36 : decode cX6_isRest 36 = .ok (.if_icmp .eq 13, 3) := by decide +kernel
theorem dX6_isRest_39 : decode cX6_isRest 39 = .ok (.aload_n 0, 1) := by decide +kernel
theorem dX6_isRest_40 : decode cX6_isRest 40 = .ok (.iload 4, 2) := by decide +kernel
theorem dX6_isRest_42 : decode cX6_isRest 42 = .ok (.iload_n 1, 1) := by decide +kernel
theorem dX6_isRest_43 : decode cX6_isRest 43 = .ok (.invokevirtual 281, 3) := by decide +kernel
theorem dX6_isRest_46 : decode cX6_isRest 46 = .ok (.ifCond .eq 7, 3) := by decide +kernel
theorem dX6_isRest_49 : decode cX6_isRest 49 = .ok (.iconst 0, 1) := by decide +kernel
theorem dX6_isRest_50 : decode cX6_isRest 50 = .ok (.goto 4, 3) := by decide +kernel
theorem dX6_isRest_53 : decode cX6_isRest 53 = .ok (.iload_n 3, 1) := by decide +kernel
theorem dX6_isRest_54 : decode cX6_isRest 54 = .ok (.istore 6, 2) := by decide +kernel
theorem dX6_isRest_56 : decode cX6_isRest 56 = .ok (.iload 5, 2) := by decide +kernel
theorem dX6_isRest_58 : decode cX6_isRest 58 = .ok (.ifCond .eq 17, 3) := by decide +kernel
theorem dX6_isRest_61 : decode cX6_isRest 61 = .ok (.iload 6, 2) := by decide +kernel
theorem dX6_isRest_63 : decode cX6_isRest 63 = .ok (.iload_n 2, 1) := by decide +kernel
theorem dX6_isRest_64 : decode cX6_isRest 64 = .ok (.if_icmp .ge 7, 3) := by decide +kernel
theorem dX6_isRest_67 : decode cX6_isRest 67 = .ok (.iconst 1, 1) := by decide +kernel
theorem dX6_isRest_68 : decode cX6_isRest 68 = .ok (.goto 18, 3) := by decide +kernel
theorem dX6_isRest_71 : decode cX6_isRest 71 = .ok (.iconst 0, 1) := by decide +kernel
