theorem dX7_byLetters_3 : decode cX7_byLetters 3 = .ok (.istore_n 2, 1) := by decide +kernel
theorem dX7_byLetters_4 : decode cX7_byLetters 4 = .ok (.aload_n 0, 1) := by decide +kernel
theorem dX7_byLetters_5 : decode cX7_byLetters 5 = .ok (.getfield 25, 3) := by decide +kernel
theorem dX7_byLetters_8 : decode cX7_byLetters 8 = .ok (.iconst 4, 1) := by decide +kernel
theorem dX7_byLetters_9 : decode cX7_byLetters 9 = .ok (.iload_n 1, 1) := by decide +kernel
theorem dX7_byLetters_10 : decode cX7_byLetters 10 = .ok (.imul, 1) := by decide +kernel
theorem dX7_byLetters_11 : decode cX7_byLetters 11 = .ok (.iload_n 2, 1) := by decide +kernel
theorem dX7_byLetters_12 : decode cX7_byLetters 12 = .ok (.iadd, 1) := by decide +kernel
theorem dX7_byLetters_13 : decode cX7_byLetters 13 = .ok (.iaload, 1) := by decide +kernel
theorem dX7_byLetters_14 : decode cX7_byLetters 14 = .ok (.ifCond .ne 12, 3) := by decide +kernel
theorem dX7_byLetters_17 : decode cX7_byLetters 17 = .ok (.iload_n 2, 1) := by decide +kernel
theorem dX7_byLetters_18 : decode cX7_byLetters 18 = .ok (.iconst 1, 1) := by decide +kernel
theorem dX7_byLetters_19 : decode cX7_byLetters 19 = .ok (.iadd, 1) := by decide +kernel
theorem dX7_byLetters_20 : decode cX7_byLetters 20 = .ok (.iconst 4, 1) := by decide +kernel
theorem dX7_byLetters_21 : decode cX7_byLetters 21 = .ok (.irem, 1) := by decide +kernel
theorem dX7_byLetters_22 : decode cX7_byLetters 22 = .ok (.istore_n 2, 1) := by decide +kernel
theorem dX7_byLetters_23 : decode cX7_byLetters 23 = .ok (.goto (-19), 3) := by decide +kernel
theorem dX7_byLetters_26 : decode cX7_byLetters 26 = .ok (.iload_n 2, 1) := by decide +kernel
theorem dX7_byLetters_27 : decode cX7_byLetters 27 = .ok (.ireturn, 1) := by decide +kernel
set_option maxRecDepth 20000 in
theorem ggX7_byBoard_X7_broughtBy : GoodIn wsX7_byBoard wsX7_broughtBy := goodIn_r _ [6, 7, 1, 8, 9, 10, 11, 12, 13, 14, 15, 16, 17, 18, 19, 20, 21, 22, 23, 24, 25, 26, 27, 28, 29, 30, 31] (by decide +kernel) (by decide +kernel)
set_option maxRecDepth 20000 in
theorem gX7_byBoard_X7_broughtBy : GoodIn wsX7_byBoard (wsV RX7 143 RX7 yX7_broughtBy wsX7_broughtBy) := goodIn_app (goodIn_of _ (by decide +kernel)) ggX7_byBoard_X7_broughtBy
theorem dX7_byBoard_0 : decode cX7_byBoard 0 = .ok (.bipush (-9), 2) := by decide +kernel
theorem dX7_byBoard_2 : decode cX7_byBoard 2 = .ok (.istore_n 2, 1) := by decide +kernel
theorem dX7_byBoard_3 : decode cX7_byBoard 3 = .ok (.iconst 3, 1) := by decide +kernel
theorem dX7_byBoard_4 : decode cX7_byBoard 4 = .ok (.istore_n 3, 1) := by decide +kernel
theorem dX7_byBoard_5 : decode cX7_byBoard 5 = .ok (.iload_n 3, 1) := by decide +kernel
theorem dX7_byBoard_6 : decode cX7_byBoard 6 = .ok (.ifCond .lt 90, 3) := by decide +kernel
theorem dX7_byBoard_9 : decode cX7_byBoard 9 = .ok (.aload_n 0, 1) := by decide +kernel
theorem dX7_byBoard_10 : decode cX7_byBoard 10 = .ok (.getfield 25, 3) := by decide +kernel
theorem dX7_byBoard_13 : decode cX7_byBoard 13 = .ok (.iconst 4, 1) := by decide +kernel
theorem dX7_byBoard_14 : decode cX7_byBoard 14 = .ok (.iload_n 1, 1) := by decide +kernel
theorem dX7_byBoard_15 : decode cX7_byBoard 15 = .ok (.imul, 1) := by decide +kernel
theorem dX7_byBoard_16 : decode cX7_byBoard 16 = .ok (.iload_n 3, 1) := by decide +kernel
theorem dX7_byBoard_17 : decode cX7_byBoard 17 = .ok (.iadd, 1) := by decide +kernel
theorem dX7_byBoard_18 : decode cX7_byBoard 18 = .ok (.iaload, 1) := by decide +kernel
theorem dX7_byBoard_19 : decode cX7_byBoard 19 = .ok (.ifCond .le 71, 3) := by decide +kernel
theorem dX7_byBoard_22 : decode cX7_byBoard 22 = .ok (.iload_n 2, 1) := by decide +kernel
theorem dX7_byBoard_23 : decode cX7_byBoard 23 = .ok (.bipush (-9), 2) := by decide +kernel
theorem dX7_byBoard_25 : decode cX7_byBoard 25 = .ok (.if_icmp .ne 7, 3) := by decide +kernel
theorem dX7_byBoard_28 : decode cX7_byBoard 28 = .ok (.iconst 0, 1) := by decide +kernel
theorem dX7_byBoard_29 : decode cX7_byBoard 29 = .ok (.goto 14, 3) := by decide +kernel
theorem dX7_byBoard_32 : decode cX7_byBoard 32 = .ok (.aload_n 0, 1) := by decide +kernel
theorem dX7_byBoard_33 : decode cX7_byBoard 33 = .ok (.iload_n 3, 1) := by decide +kernel
theorem dX7_byBoard_34 : decode cX7_byBoard 34 = .ok (.invokevirtual 143, 3) := by decide +kernel
theorem dX7_byBoard_37 : decode cX7_byBoard 37 = .ok (.aload_n 0, 1) := by decide +kernel
theorem dX7_byBoard_38 : decode cX7_byBoard 38 = .ok (.iload_n 2, 1) := by decide +kernel
theorem dX7_byBoard_39 : decode cX7_byBoard 39 = .ok (.invokevirtual 143, 3) := by decide +kernel
theorem dX7_byBoard_42 : decode cX7_byBoard 42 = .ok (.isub, 1) := by decide +kernel
theorem dX7_byBoard_43 : decode cX7_byBoard 43 = .ok (.istore 4, 2) := by decide +kernel
theorem dX7_byBoard_45 : decode cX7_byBoard 45 = .ok (.iload_n 2, 1) := by decide +kernel
theorem dX7_byBoard_46 : decode cX7_byBoard 46 = .ok (.bipush (-9), 2) := by decide +kernel
theorem dX7_byBoard_48 : decode cX7_byBoard 48 = .ok (.if_icmp .eq 36, 3) := by decide +kernel
theorem dX7_byBoard_51 : decode cX7_byBoard 51 = .ok (.iload 4, 2) := by decide +kernel
theorem dX7_byBoard_53 : decode cX7_byBoard 53 = .ok (.ifCond .lt 31, 3) := by decide +kernel
theorem dX7_byBoard_56 : decode cX7_byBoard 56 = .ok (.iload 4, 2) := by decide +kernel
theorem dX7_byBoard_58 : decode cX7_byBoard 58 = .ok (.ifCond .ne 30, 3) := by decide +kernel
theorem dX7_byBoard_61 : decode cX7_byBoard 61 = .ok (.aload_n 0, 1) := by decide +kernel
theorem dX7_byBoard_62 : decode cX7_byBoard 62 = .ok (.getfield 25, 3) := by decide +kernel
theorem dX7_byBoard_65 : decode cX7_byBoard 65 = .ok (.iconst 4, 1) := by decide +kernel
theorem dX7_byBoard_66 : decode cX7_byBoard 66 = .ok (.iload_n 1, 1) := by decide +kernel
theorem dX7_byBoard_67 : decode cX7_byBoard 67 = .ok (.imul, 1) := by decide +kernel
theorem dX7_byBoard_68 : decode cX7_byBoard 68 = .ok (.iload_n 3, 1) := by decide +kernel
theorem dX7_byBoard_69 : decode cX7_byBoard 69 = .ok (.iadd, 1) := by decide +kernel
theorem dX7_byBoard_70 : decode cX7_byBoard 70 = .ok (.iaload, 1) := by decide +kernel
theorem dX7_byBoard_71 : decode cX7_byBoard 71 = .ok (.aload_n 0, 1) := by decide +kernel
theorem dX7_byBoard_72 : decode cX7_byBoard 72 = .ok (.getfield 25, 3) := by decide +kernel
theorem dX7_byBoard_75 : decode cX7_byBoard 75 = .ok (.iconst 4, 1) := by decide +kernel
theorem dX7_byBoard_76 : decode cX7_byBoard 76 = .ok (.iload_n 1, 1) := by decide +kernel
theorem dX7_byBoard_77 : decode cX7_byBoard 77 = .ok (.imul, 1) := by decide +kernel
theorem dX7_byBoard_78 : decode cX7_byBoard 78 = .ok (.iload_n 2, 1) := by decide +kernel
theorem dX7_byBoard_79 : decode cX7_byBoard 79 = .ok (.iadd, 1) := by decide +kernel
theorem dX7_byBoard_80 : decode cX7_byBoard 80 = .ok (.iaload, 1) := by decide +kernel
theorem dX7_byBoard_81 : decode cX7_byBoard 81 = .ok (.if_icmp .lt 7, 3) := by decide +kernel
theorem dX7_byBoard_84 : decode cX7_byBoard 84 = .ok (.iload_n 3, 1) := by decide +kernel
theorem dX7_byBoard_85 : decode cX7_byBoard 85 = .ok (.goto 4, 3) := by decide +kernel
theorem dX7_byBoard_88 : decode cX7_byBoard 88 = .ok (.iload_n 2, 1) := by decide +kernel
theorem dX7_byBoard_89 : decode cX7_byBoard 89 = .ok (.istore_n 2, 1) := by decide +kernel
theorem dX7_byBoard_90 : decode cX7_byBoard 90 = .ok (.iinc 3 (-1), 3) := by decide +kernel
theorem dX7_byBoard_93 : decode cX7_byBoard 93 = .ok (.goto (-88), 3) := by decide +kernel
theorem dX7_byBoard_96 : decode cX7_byBoard 96 = .ok (.iload_n 2, 1) := by decide +kernel
theorem dX7_byBoard_97 : decode cX7_byBoard 97 = .ok (.ireturn, 1) := by decide +kernel
set_option maxRecDepth 20000 in
theorem ggX7_evening_X7_weightsOf : GoodIn wsX7_evening wsX7_weightsOf := goodIn_r _ [9, 2, 33, 34, 35, 36, 37, 38, 39, 40, 41, 42, 43, 44, 45, 46, 47, 48, 49, 50, 51, 52, 53, 54, 55, 56] (by decide +kernel) (by decide +kernel)
set_option maxRecDepth 20000 in
theorem gX7_evening_X7_weightsOf : GoodIn wsX7_evening (wsV RX7 140 RX7 yX7_weightsOf wsX7_weightsOf) := goodIn_app (goodIn_of _ (by decide +kernel)) ggX7_evening_X7_weightsOf
set_option maxRecDepth 20000 in
theorem ggX7_evening_X7_drawn : GoodIn wsX7_evening wsX7_drawn := goodIn_r _ [13, 2, 14, 15, 5, 6, 7, 8, 9, 33, 34, 35, 36, 37, 38, 39, 40, 41, 42, 43, 44, 45, 46, 47, 48, 49, 50, 51, 52, 53, 54, 55, 56] (by decide +kernel) (by decide +kernel)
set_option maxRecDepth 20000 in
theorem gX7_evening_X7_drawn : GoodIn wsX7_evening (wsV RX7 146 RX7 yX7_drawn wsX7_drawn) := goodIn_app (goodIn_of _ (by decide +kernel)) ggX7_evening_X7_drawn
set_option maxRecDepth 20000 in
theorem ggX7_evening_X7_byLetters : GoodIn wsX7_evening wsX7_byLetters := goodIn_r _ [19, 2, 33, 34, 35, 36, 37, 38, 39, 40, 41, 42, 43, 44, 45, 46, 47, 48, 49, 50, 51, 52, 53, 54, 55, 56] (by decide +kernel) (by decide +kernel)
set_option maxRecDepth 20000 in
theorem gX7_evening_X7_byLetters : GoodIn wsX7_evening (wsV RX7 149 RX7 yX7_byLetters wsX7_byLetters) := goodIn_app (goodIn_of _ (by decide +kernel)) ggX7_evening_X7_byLetters
set_option maxRecDepth 20000 in
theorem ggX7_evening_X7_byBoard : GoodIn wsX7_evening wsX7_byBoard := goodIn_r _ [23, 2, 24, 25, 26, 8, 27, 3, 33, 34, 35, 36, 37, 38, 39, 40, 41, 42, 43, 44, 45, 46, 47, 48, 49, 50, 51, 52, 53, 54, 55, 56] (by decide +kernel) (by decide +kernel)
set_option maxRecDepth 20000 in
theorem gX7_evening_X7_byBoard : GoodIn wsX7_evening (wsV RX7 152 RX7 yX7_byBoard wsX7_byBoard) := goodIn_app (goodIn_of _ (by decide +kernel)) ggX7_evening_X7_byBoard
set_option maxRecDepth 20000 in
theorem ggX7_evening_X7_bring : GoodIn wsX7_evening wsX7_bring := goodIn_r _ [31, 2, 32, 4, 33, 34, 35, 36, 37, 38, 39, 40, 41, 42, 43, 44, 45, 46, 47, 48, 49, 50, 51, 52, 53, 54, 55, 56] (by decide +kernel) (by decide +kernel)
set_option maxRecDepth 20000 in
theorem gX7_evening_X7_bring : GoodIn wsX7_evening (wsV RX7 135 RX7 yX7_bring wsX7_bring) := goodIn_app (goodIn_of _ (by decide +kernel)) ggX7_evening_X7_bring
theorem dX7_evening_0 : decode cX7_evening 0 = .ok (.aload_n 0, 1) := by decide +kernel
theorem dX7_evening_1 : decode cX7_evening 1 = .ok (.iconst 0, 1) := by decide +kernel
theorem dX7_evening_2 : decode cX7_evening 2 = .ok (.putfield 54, 3) := by decide +kernel
theorem dX7_evening_5 : decode cX7_evening 5 = .ok (.aload_n 0, 1) := by decide +kernel
theorem dX7_evening_6 : decode cX7_evening 6 = .ok (.getfield 25, 3) := by decide +kernel
theorem dX7_evening_9 : decode cX7_evening 9 = .ok (.bipush 58, 2) := by decide +kernel
theorem dX7_evening_11 : decode cX7_evening 11 = .ok (.iaload, 1) := by decide +kernel
theorem dX7_evening_12 : decode cX7_evening 12 = .ok (.iconst 1, 1) := by decide +kernel
theorem dX7_evening_13 : decode cX7_evening 13 = .ok (.if_icmp .ne 6, 3) := by decide +kernel
theorem dX7_evening_16 : decode cX7_evening 16 = .ok (.bipush (-2), 2) := by decide +kernel
theorem dX7_evening_18 : decode cX7_evening 18 = .ok (.ireturn, 1) := by decide +kernel
theorem dX7_evening_19 : decode cX7_evening 19 = .ok (.iconst 0, 1) := by decide +kernel
theorem dX7_evening_20 : decode cX7_evening 20 = .ok (.istore_n 1, 1) := by decide +kernel
theorem dX7_evening_21 : decode cX7_evening 21 = .ok (.iconst 0, 1) := by decide +kernel
theorem dX7_evening_22 : decode cX7_evening 22 = .ok (.istore_n 2, 1) := by decide +kernel
theorem dX7_evening_23 : decode cX7_evening 23 = .ok (.iload_n 2, 1) := by decide +kernel
theorem dX7_evening_24 : decode cX7_evening 24 = .ok (.aload_n 0, 1) := by decide +kernel
theorem dX7_evening_25 : decode cX7_evening 25 = .ok (.getfield 122, 3) := by decide +kernel
theorem dX7_evening_28 : decode cX7_evening 28 = .ok (.if_icmp .ge 80, 3) := by decide +kernel
theorem dX7_evening_31 : decode cX7_evening 31 = .ok (.aload_n 0, 1) := by decide +kernel
theorem dX7_evening_32 : decode cX7_evening 32 = .ok (.getfield 25, 3) := by decide +kernel
theorem dX7_evening_35 : decode cX7_evening 35 = .ok (.bipush 24, 2) := by decide +kernel
theorem dX7_evening_37 : decode cX7_evening 37 = .ok (.iload_n 2, 1) := by decide +kernel
theorem dX7_evening_38 : decode cX7_evening 38 = .ok (.iadd, 1) := by decide +kernel
theorem dX7_evening_39 : decode cX7_evening 39 = .ok (.iaload, 1) := by decide +kernel
theorem dX7_evening_40 : decode cX7_evening 40 = .ok (.bipush (-9), 2) := by decide +kernel
theorem dX7_evening_42 : decode cX7_evening 42 = .ok (.if_icmp .ne 60, 3) := by decide +kernel
theorem dX7_evening_45 : decode cX7_evening 45 = .ok (.aload_n 0, 1) := by decide +kernel
theorem dX7_evening_46 : decode cX7_evening 46 = .ok (.iload_n 2, 1) := by decide +kernel
theorem dX7_evening_47 : decode cX7_evening 47 = .ok (.invokevirtual 140, 3) := by decide +kernel
theorem dX7_evening_50 : decode cX7_evening 50 = .ok (.ifCond .le 52, 3) := by decide +kernel
theorem dX7_evening_53 : decode cX7_evening 53 = .ok (.aload_n 0, 1) := by decide +kernel
theorem dX7_evening_54 : decode cX7_evening 54 = .ok (.iload_n 2, 1) := by decide +kernel
theorem dX7_evening_55 : decode cX7_evening 55 = .ok (.aload_n 0, 1) := by decide +kernel
theorem dX7_evening_56 : decode cX7_evening 56 = .ok (.getfield 22, 3) := by decide +kernel
theorem dX7_evening_59 : decode cX7_evening 59 = .ok (.iconst 0, 1) := by decide +kernel
theorem dX7_evening_60 : decode cX7_evening 60 = .ok (.iaload, 1) := by decide +kernel
theorem dX7_evening_61 : decode cX7_evening 61 = .ok (.ifCond .ne 11, 3) := by decide +kernel
theorem dX7_evening_64 : decode cX7_evening 64 = .ok (.aload_n 0, 1) := by decide +kernel
theorem dX7_evening_65 : decode cX7_evening 65 = .ok (.iload_n 2, 1) := by decide +kernel
theorem dX7_evening_66 : decode cX7_evening 66 = .ok (.invokevirtual 146, 3) := by decide +kernel
theorem dX7_evening_69 : decode cX7_evening 69 = .ok (.goto 26, 3) := by decide +kernel
theorem dX7_evening_72 : decode cX7_evening 72 = .ok (.aload_n 0, 1) := by decide +kernel
theorem dX7_evening_73 : decode cX7_evening 73 = .ok (.getfield 22, 3) := by decide +kernel
theorem dX7_evening_76 : decode cX7_evening 76 = .ok (.iconst 0, 1) := by decide +kernel
theorem dX7_evening_77 : decode cX7_evening 77 = .ok (.iaload, 1) := by decide +kernel
theorem dX7_evening_78 : decode cX7_evening 78 = .ok (.iconst 1, 1) := by decide +kernel
theorem dX7_evening_79 : decode cX7_evening 79 = .ok (.if_icmp .ne 11, 3) := by decide +kernel
theorem dX7_evening_82 : decode cX7_evening 82 = .ok (.aload_n 0, 1) := by decide +kernel
theorem dX7_evening_83 : decode cX7_evening 83 = .ok (.iload_n 2, 1) := by decide +kernel
theorem dX7_evening_84 : decode cX7_evening 84 = .ok (.invokevirtual 149, 3) := by decide +kernel
theorem dX7_evening_87 : decode cX7_evening 87 = .ok (.goto 8, 3) := by decide +kernel
theorem dX7_evening_90 : decode cX7_evening 90 = .ok (.aload_n 0, 1) := by decide +kernel
theorem dX7_evening_91 : decode cX7_evening 91 = .ok (.iload_n 2, 1) := by decide +kernel
theorem dX7_evening_92 : decode cX7_evening 92 = .ok (.invokevirtual 152, 3) := by decide +kernel
theorem dX7_evening_95 : decode cX7_evening 95 = .ok (.invokevirtual 135, 3) := by decide +kernel
theorem dX7_evening_98 : decode cX7_evening 98 = .ok (.pop, 1) := by decide +kernel
theorem dX7_evening_99 : decode cX7_evening 99 = .ok (.iinc 1 1, 3) := by decide +kernel
theorem dX7_evening_102 : decode cX7_evening 102 = .ok (.iinc 2 1, 3) := by decide +kernel
theorem dX7_evening_105 : decode cX7_evening 105 = .ok (.goto (-82), 3) := by decide +kernel
theorem dX7_evening_108 : decode cX7_evening 108 = .ok (.iload_n 1, 1) := by decide +kernel
theorem dX7_evening_109 : decode cX7_evening 109 = .ok (.ireturn, 1) := by decide +kernel
theorem dX7_spoonsOf_0 : decode cX7_spoonsOf 0 = .ok (.iconst 0, 1) := by decide +kernel
theorem dX7_spoonsOf_1 : decode cX7_spoonsOf 1 = .ok (.istore_n 2, 1) := by decide +kernel
theorem dX7_spoonsOf_2 : decode cX7_spoonsOf 2 = .ok (.iconst 0, 1) := by decide +kernel
theorem dX7_spoonsOf_3 : decode cX7_spoonsOf 3 = .ok (.istore_n 3, 1) := by decide +kernel
theorem dX7_spoonsOf_4 : decode cX7_spoonsOf 4 = .ok (.iload_n 3, 1) := by decide +kernel
theorem dX7_spoonsOf_5 : decode cX7_spoonsOf 5 = .ok (.aload_n 0, 1) := by decide +kernel
theorem dX7_spoonsOf_6 : decode cX7_spoonsOf 6 = .ok (.getfield 122, 3) := by decide +kernel
theorem dX7_spoonsOf_9 : decode cX7_spoonsOf 9 = .ok (.if_icmp .ge 42, 3) := by decide +kernel
theorem dX7_spoonsOf_12 : decode cX7_spoonsOf 12 = .ok (.iload_n 2, 1) := by decide +kernel
theorem dX7_spoonsOf_13 : decode cX7_spoonsOf 13 = .ok (.aload_n 0, 1) := by decide +kernel
theorem dX7_spoonsOf_14 : decode cX7_spoonsOf 14 = .ok (.getfield 25, 3) := by decide +kernel
theorem dX7_spoonsOf_17 : decode cX7_spoonsOf 17 = .ok (.bipush 24, 2) := by decide +kernel
theorem dX7_spoonsOf_19 : decode cX7_spoonsOf 19 = .ok (.iload_n 3, 1) := by decide +kernel
theorem dX7_spoonsOf_20 : decode cX7_spoonsOf 20 = .ok (.iadd, 1) := by decide +kernel
theorem dX7_spoonsOf_21 : decode cX7_spoonsOf 21 = .ok (.iaload, 1) := by decide +kernel
theorem dX7_spoonsOf_22 : decode cX7_spoonsOf 22 = .ok (.iload_n 1, 1) := by decide +kernel
theorem dX7_spoonsOf_23 : decode cX7_spoonsOf 23 = .ok (.if_icmp .ne 19, 3) := by decide +kernel
theorem dX7_spoonsOf_26 : decode cX7_spoonsOf 26 = .ok (.aload_n 0, 1) := by decide +kernel
theorem dX7_spoonsOf_27 : decode cX7_spoonsOf 27 = .ok (.getfield 16, 3) := by decide +kernel
theorem dX7_spoonsOf_30 : decode cX7_spoonsOf 30 = .ok (.iload_n 3, 1) := by decide +kernel
theorem dX7_spoonsOf_31 : decode cX7_spoonsOf 31 = .ok (.iaload, 1) := by decide +kernel
theorem dX7_spoonsOf_32 : decode cX7_spoonsOf 32 = .ok (.aload_n 0, 1) := by decide +kernel
theorem dX7_spoonsOf_33 : decode cX7_spoonsOf 33 = .ok (.getfield 22, 3) := by decide +kernel
theorem dX7_spoonsOf_36 : decode cX7_spoonsOf 36 = .ok (.iconst 1, 1) := by decide +kernel
theorem dX7_spoonsOf_37 : decode cX7_spoonsOf 37 = .ok (.iaload, 1) := by decide +kernel
theorem dX7_spoonsOf_38 : decode cX7_spoonsOf 38 = .ok (.iadd, 1) := by decide +kernel
theorem dX7_spoonsOf_39 : decode cX7_spoonsOf 39 = .ok (.goto 4, 3) := by decide +kernel
theorem dX7_spoonsOf_42 : decode cX7_spoonsOf 42 = .ok (.iconst 0, 1) := by decide +kernel
theorem dX7_spoonsOf_43 : decode cX7_spoonsOf 43 = .ok (.iadd, 1) := by decide +kernel
theorem dX7_spoonsOf_44 : decode cX7_spoonsOf 44 = .ok (.istore_n 2, 1) := by decide +kernel
theorem dX7_spoonsOf_45 : decode cX7_spoonsOf 45 = .ok (.iinc 3 1, 3) := by decide +kernel
theorem dX7_spoonsOf_48 : decode cX7_spoonsOf 48 = .ok (.goto (-44), 3) := by decide +kernel
theorem dX7_spoonsOf_51 : decode cX7_spoonsOf 51 = .ok (.iload_n 2, 1) := by decide +kernel
theorem dX7_spoonsOf_52 : decode cX7_spoonsOf 52 = .ok (.ireturn, 1) := by decide +kernel
set_option maxRecDepth 20000 in
theorem ggX7_table_X7_isSort : GoodIn wsX7_table wsX7_isSort := goodIn_r _ [6, 7, 8, 5, 9] (by decide +kernel) (by decide +kernel)
set_option maxRecDepth 20000 in
theorem gX7_table_X7_isSort : GoodIn wsX7_table (va_wsS RX7 132 yX7_isSort wsX7_isSort) := goodIn_app (goodIn_of _ (by decide +kernel)) ggX7_table_X7_isSort
set_option maxRecDepth 20000 in
theorem ggX7_table_X7_in : GoodIn wsX7_table wsX7_in := goodIn_r _ [9] (by decide +kernel) (by decide +kernel)
set_option maxRecDepth 20000 in
theorem gX7_table_X7_in : GoodIn wsX7_table (va_wsS RX7 58 yX7_in wsX7_in) := goodIn_app (goodIn_of _ (by decide +kernel)) ggX7_table_X7_in
set_option maxRecDepth 20000 in
theorem ggX7_table_X7_spoonsOf : GoodIn wsX7_table wsX7_spoonsOf := goodIn_r _ [13, 14, 2, 15, 16, 21, 22, 23, 24, 25, 26, 27, 28, 29, 30, 31, 32, 33, 34, 35, 36, 37, 38, 39, 40, 41, 42, 43, 44] (by decide +kernel) (by decide +kernel)
set_option maxRecDepth 20000 in
theorem gX7_table_X7_spoonsOf : GoodIn wsX7_table (wsV RX7 155 RX7 yX7_spoonsOf wsX7_spoonsOf) := goodIn_app (goodIn_of _ (by decide +kernel)) ggX7_table_X7_spoonsOf
set_option maxRecDepth 20000 in
theorem ggX7_table_X7_broughtBy : GoodIn wsX7_table wsX7_broughtBy := goodIn_r _ [20, 14, 2, 21, 22, 23, 24, 25, 26, 27, 28, 29, 30, 31, 32, 33, 34, 35, 36, 37, 38, 39, 40, 41, 42, 43, 44] (by decide +kernel) (by decide +kernel)
set_option maxRecDepth 20000 in
theorem gX7_table_X7_broughtBy : GoodIn wsX7_table (wsV RX7 143 RX7 yX7_broughtBy wsX7_broughtBy) := goodIn_app (goodIn_of _ (by decide +kernel)) ggX7_table_X7_broughtBy
theorem dX7_table_0 : decode cX7_table 0 = .ok (.aload_n 0, 1) := by decide +kernel
theorem dX7_table_1 : decode cX7_table 1 = .ok (.iconst 0, 1) := by decide +kernel
theorem dX7_table_2 : decode cX7_table 2 = .ok (.putfield 54, 3) := by decide +kernel
theorem dX7_table_5 : decode cX7_table 5 = .ok (.iload_n 1, 1) := by decide +kernel
theorem dX7_table_6 : decode cX7_table 6 = .ok (.invokestatic 132, 3) := by decide +kernel
theorem dX7_table_9 : decode cX7_table 9 = .ok (.ifCond .eq 12, 3) := by decide +kernel
theorem dX7_table_12 : decode cX7_table 12 = .ok (.iload_n 2, 1) := by decide +kernel
theorem dX7_table_13 : decode cX7_table 13 = .ok (.iconst 0, 1) := by decide +kernel
theorem dX7_table_14 : decode cX7_table 14 = .ok (.iconst 2, 1) := by decide +kernel
theorem dX7_table_15 : decode cX7_table 15 = .ok (.invokestatic 58, 3) := by decide +kernel
theorem dX7_table_18 : decode cX7_table 18 = .ok (.ifCond .ne 5, 3) := by decide +kernel
theorem dX7_table_21 : decode cX7_table 21 = .ok (.iconst (-1), 1) := by decide +kernel
theorem dX7_table_22 : decode cX7_table 22 = .ok (.ireturn, 1) := by decide +kernel
theorem dX7_table_23 : decode cX7_table 23 = .ok (.iload_n 2, 1) := by decide +kernel
theorem dX7_table_24 : decode cX7_table 24 = .ok (.ifCond .ne 11, 3) := by decide +kernel
theorem dX7_table_27 : decode cX7_table 27 = .ok (.aload_n 0, 1) := by decide +kernel
theorem dX7_table_28 : decode cX7_table 28 = .ok (.iload_n 1, 1) := by decide +kernel
theorem dX7_table_29 : decode cX7_table 29 = .ok (.invokevirtual 155, 3) := by decide +kernel
theorem dX7_table_32 : decode cX7_table 32 = .ok (.goto 25, 3) := by decide +kernel
theorem dX7_table_35 : decode cX7_table 35 = .ok (.iload_n 2, 1) := by decide +kernel
theorem dX7_table_36 : decode cX7_table 36 = .ok (.iconst 1, 1) := by decide +kernel
theorem dX7_table_37 : decode cX7_table 37 = .ok (.if_icmp .ne 15, 3) := by decide +kernel
theorem dX7_table_40 : decode cX7_table 40 = .ok (.aload_n 0, 1) := by decide +kernel
theorem dX7_table_41 : decode cX7_table 41 = .ok (.getfield 25, 3) := by decide +kernel
theorem dX7_table_44 : decode cX7_table 44 = .ok (.bipush 54, 2) := by decide +kernel
theorem dX7_table_46 : decode cX7_table 46 = .ok (.iload_n 1, 1) := by decide +kernel
theorem dX7_table_47 : decode cX7_table 47 = .ok (.iadd, 1) := by decide +kernel
theorem dX7_table_48 : decode cX7_table 48 = .ok (.iaload, 1) := by decide +kernel
theorem dX7_table_49 : decode cX7_table 49 = .ok (.goto 8, 3) := by decide +kernel
theorem dX7_table_52 : decode cX7_table 52 = .ok (.aload_n 0, 1) := by decide +kernel
theorem dX7_table_53 : decode cX7_table 53 = .ok (.iload_n 1, 1) := by decide +kernel
theorem dX7_table_54 : decode cX7_table 54 = .ok (.invokevirtual 143, 3) := by decide +kernel
theorem dX7_table_57 : decode cX7_table 57 = .ok (.ireturn, 1) := by decide +kernel
theorem dX7_meal_0 : decode cX7_meal 0 = .ok (.iconst 0, 1) := by decide +kernel
theorem dX7_meal_1 : decode cX7_meal 1 = .ok (.istore_n 2, 1) := by decide +kernel
theorem dX7_meal_2 : decode cX7_meal 2 = .ok (.iconst 1, 1) := by decide +kernel
theorem dX7_meal_3 : decode cX7_meal 3 = .ok (.istore_n 3, 1) := by decide +kernel
theorem dX7_meal_4 : decode cX7_meal 4 = .ok (.iload_n 3, 1) := by decide +kernel
theorem dX7_meal_5 : decode cX7_meal 5 = .ok (.ifCond .eq 164, 3) := by decide +kernel
theorem dX7_meal_8 : decode cX7_meal 8 = .ok (.iload_n 2, 1) := by decide +kernel
theorem dX7_meal_9 : decode cX7_meal 9 = .ok (.aload_n 0, 1) := by decide +kernel
theorem dX7_meal_10 : decode cX7_meal 10 = .ok (.getfield 16, 3) := by decide +kernel
theorem dX7_meal_13 : decode cX7_meal 13 = .ok (.iload_n 1, 1) := by decide +kernel
theorem dX7_meal_14 : decode cX7_meal 14 = .ok (.iaload, 1) := by decide +kernel
theorem dX7_meal_15 : decode cX7_meal 15 = .ok (.if_icmp .ge 154, 3) := by decide +kernel
theorem dX7_meal_18 : decode cX7_meal 18 = .ok (.bipush (-9), 2) := by decide +kernel
theorem dX7_meal_20 : decode cX7_meal 20 = .ok (.istore 4, 2) := by decide +kernel
theorem dX7_meal_22 : decode cX7_meal 22 = .ok (.iconst 3, 1) := by decide +kernel
theorem dX7_meal_23 : decode cX7_meal 23 = .ok (.istore 5, 2) := by decide +kernel
theorem dX7_meal_25 : decode cX7_meal 25 = .ok (.iload 5, 2) := by decide +kernel
theorem dX7_meal_27 : decode cX7_meal 27 = .ok (.ifCond .lt 87, 3) := by decide +kernel
theorem dX7_meal_30 : decode cX7_meal 30 = .ok (.aload_n 0, 1) := by decide +kernel
theorem dX7_meal_31 : decode cX7_meal 31 = .ok (.getfield 25, 3) := by decide +kernel
theorem dX7_meal_34 : decode cX7_meal 34 = .ok (.bipush 54, 2) := by decide +kernel
theorem dX7_meal_36 : decode cX7_meal 36 = .ok (.iload 5, 2) := by decide +kernel
theorem dX7_meal_38 : decode cX7_meal 38 = .ok (.iadd, 1) := by decide +kernel
theorem dX7_meal_39 : decode cX7_meal 39 = .ok (.iaload, 1) := by decide +kernel
theorem dX7_meal_40 : decode cX7_meal 40 = .ok (.ifCond .le 21, 3) := by decide +kernel
theorem dX7_meal_43 : decode cX7_meal 43 = .ok (.aload_n 0, 1) := by decide +kernel
theorem dX7_meal_44 : decode cX7_meal 44 = .ok (.getfield 19, 3) := by decide +kernel
theorem dX7_meal_47 : decode cX7_meal 47 = .ok (.iload_n 1, 1) := by decide +kernel
theorem dX7_meal_48 : decode cX7_meal 48 = .ok (.iaload, 1) := by decide +kernel
theorem dX7_meal_49 : decode cX7_meal 49 = .ok (.iload 5, 2) := by decide +kernel
theorem dX7_meal_51 : decode cX7_meal 51 = .ok (.ishr, 1) := by decide +kernel
theorem dX7_meal_52 : decode cX7_meal 52 = .ok (.iconst 1, 1) := by decide +kernel
theorem dX7_meal_53 : decode cX7_meal 53 = .ok (.iand, 1) := by decide +kernel
theorem dX7_meal_54 : decode cX7_meal 54 = .ok (.ifCond .ne 7, 3) := by decide +kernel
theorem dX7_meal_57 : decode cX7_meal 57 = .ok (.iconst 1, 1) := by decide +kernel
theorem dX7_meal_58 : decode cX7_meal 58 = .ok (.goto 4, 3) := by decide +kernel
theorem dX7_meal_61 : decode cX7_meal 61 = .ok (.iconst 0, 1) := by decide +kernel
theorem dX7_meal_62 : decode cX7_meal 62 = .ok (.istore 6, 2) := by decide +kernel
theorem dX7_meal_64 : decode cX7_meal 64 = .ok (.iload 6, 2) := by decide +kernel
theorem dX7_meal_66 : decode cX7_meal 66 = .ok (.ifCond .eq 38, 3) := by decide +kernel
theorem dX7_meal_69 : decode cX7_meal 69 = .ok (.iload 4, 2) := by decide +kernel
theorem dX7_meal_71 : decode cX7_meal 71 = .ok (.bipush (-9), 2) := by decide +kernel
theorem dX7_meal_73 : decode cX7_meal 73 = .ok (.if_icmp .eq 26, 3) := by decide +kernel
theorem dX7_meal_76 : decode cX7_meal 76 = .ok (.aload_n 0, 1) := by decide +kernel
theorem dX7_meal_77 : decode cX7_meal 77 = .ok (.getfield 25, 3) := by decide +kernel
theorem dX7_meal_80 : decode cX7_meal 80 = .ok (.bipush 54, 2) := by decide +kernel
theorem dX7_meal_82 : decode cX7_meal 82 = .ok (.iload 5, 2) := by decide +kernel
theorem dX7_meal_84 : decode cX7_meal 84 = .ok (.iadd, 1) := by decide +kernel
theorem dX7_meal_85 : decode cX7_meal 85 = .ok (.iaload, 1) := by decide +kernel
theorem dX7_meal_86 : decode cX7_meal 86 = .ok (.aload_n 0, 1) := by decide +kernel
theorem dX7_meal_87 : decode cX7_meal 87 = .ok (.getfield 25, 3) := by decide +kernel
theorem dX7_meal_90 : decode cX7_meal 90 = .ok (.bipush 54, 2) := by decide +kernel
theorem dX7_meal_92 : decode cX7_meal 92 = .ok (.iload 4, 2) := by decide +kernel
theorem dX7_meal_94 : decode cX7_meal 94 = .ok (.iadd, 1) := by decide +kernel
theorem dX7_meal_95 : decode cX7_meal 95 = .ok (.iaload, 1) := by decide +kernel
theorem dX7_meal_96 : decode cX7_meal 96 = .ok (.if_icmp .lt 8, 3) := by decide +kernel
theorem dX7_meal_99 : decode cX7_meal 99 = .ok (.iload 5, 2) := by decide +kernel
theorem dX7_meal_101 : decode cX7_meal 101 = .ok (.goto 5, 3) := by decide +kernel
theorem dX7_meal_104 : decode cX7_meal 104 = .ok (.iload 4, 2) := by decide +kernel
theorem dX7_meal_106 : decode cX7_meal 106 = .ok (.istore 4, 2) := by decide +kernel
theorem dX7_meal_108 : decode cX7_meal 108 = .ok (.iinc 5 (-1), 3) := by decide +kernel
theorem dX7_meal_111 : decode cX7_meal 111 = .ok (.goto (-86), 3) := by decide +kernel
theorem dX7_meal_114 : decode cX7_meal 114 = .ok (.iload 4, 2) := by decide +kernel
theorem dX7_meal_116 : decode cX7_meal 116 = .ok (.bipush (-9), 2) := by decide +kernel
theorem dX7_meal_118 : decode cX7_meal 118 = .ok (.if_icmp .eq 7, 3) := by decide +kernel
theorem dX7_meal_121 : decode cX7_meal 121 = .ok (.iconst 1, 1) := by decide +kernel
theorem dX7_meal_122 : decode cX7_meal 122 = .ok (.goto 4, 3) := by decide +kernel
theorem dX7_meal_125 : decode cX7_meal 125 = .ok (.iconst 0, 1) := by decide +kernel
theorem dX7_meal_126 : decode cX7_meal 126 = .ok (.istore_n 3, 1) := by decide +kernel
theorem dX7_meal_127 : decode cX7_meal 127 = .ok (.iload_n 3, 1) := by decide +kernel
theorem dX7_meal_128 : decode cX7_meal 128 = .ok (.ifCond .eq 38, 3) := by decide +kernel
theorem dX7_meal_131 : decode cX7_meal 131 = .ok (.aload_n 0, 1) := by decide +kernel
theorem dX7_meal_132 : decode cX7_meal 132 = .ok (.getfield 25, 3) := by decide +kernel
theorem dX7_meal_135 : decode cX7_meal 135 = .ok (.bipush 54, 2) := by decide +kernel
theorem dX7_meal_137 : decode cX7_meal 137 = .ok (.iload 4, 2) := by decide +kernel
theorem dX7_meal_139 : decode cX7_meal 139 = .ok (.iadd, 1) := by decide +kernel
theorem dX7_meal_140 : decode cX7_meal 140 = .ok (.dup2, 1) := by decide +kernel
theorem dX7_meal_141 : decode cX7_meal 141 = .ok (.iaload, 1) := by decide +kernel
theorem dX7_meal_142 : decode cX7_meal 142 = .ok (.iconst 1, 1) := by decide +kernel
theorem dX7_meal_143 : decode cX7_meal 143 = .ok (.isub, 1) := by decide +kernel
theorem dX7_meal_144 : decode cX7_meal 144 = .ok (.iastore, 1) := by decide +kernel
theorem dX7_meal_145 : decode cX7_meal 145 = .ok (.aload_n 0, 1) := by decide +kernel
theorem dX7_meal_146 : decode cX7_meal 146 = .ok (.getfield 25, 3) := by decide +kernel
theorem dX7_meal_149 : decode cX7_meal 149 = .ok (.bipush 30, 2) := by decide +kernel
theorem dX7_meal_151 : decode cX7_meal 151 = .ok (.iconst 4, 1) := by decide +kernel
theorem dX7_meal_152 : decode cX7_meal 152 = .ok (.iload_n 1, 1) := by decide +kernel
theorem dX7_meal_153 : decode cX7_meal 153 = .ok (.imul, 1) := by decide +kernel
theorem dX7_meal_154 : decode cX7_meal 154 = .ok (.iadd, 1) := by decide +kernel
theorem dX7_meal_155 : decode cX7_meal 155 = .ok (.iload 4, 2) := by decide +kernel
theorem dX7_meal_157 : decode cX7_meal 157 = .ok (.iadd, 1) := by decide +kernel
theorem dX7_meal_158 : decode cX7_meal 158 = .ok (.dup2, 1) := by decide +kernel
theorem dX7_meal_159 : decode cX7_meal 159 = .ok (.iaload, 1) := by decide +kernel
theorem dX7_meal_160 : decode cX7_meal 160 = .ok (.iconst 1, 1) := by decide +kernel
theorem dX7_meal_161 : decode cX7_meal 161 = .ok (.iadd, 1) := by decide +kernel
theorem dX7_meal_162 : decode cX7_meal 162 = .ok (.iastore, 1) := by decide +kernel
theorem dX7_meal_163 : decode cX7_meal 163 = .ok (.iinc 2 1, 3) := by decide +kernel
theorem dX7_meal_166 : decode cX7_meal 166 = .ok (.goto (-162), 3) := by decide +kernel
theorem dX7_meal_169 : decode cX7_meal 169 = .ok (.iload_n 2, 1) := by decide +kernel
theorem dX7_meal_170 : decode cX7_meal 170 = .ok (.ireturn, 1) := by decide +kernel
set_option maxRecDepth 20000 in
theorem ggX7_eat_X7_in : GoodIn wsX7_eat wsX7_in := goodIn_r _ [7] (by decide +kernel) (by decide +kernel)
set_option maxRecDepth 20000 in
theorem gX7_eat_X7_in : GoodIn wsX7_eat (va_wsS RX7 58 yX7_in wsX7_in) := goodIn_app (goodIn_of _ (by decide +kernel)) ggX7_eat_X7_in
set_option maxRecDepth 20000 in
theorem ggX7_eat_X7_meal : GoodIn wsX7_eat wsX7_meal := goodIn_r _ [11, 12, 2, 13, 14, 15, 16, 17, 18, 19, 20, 21, 22, 23, 24, 25, 26, 27, 28, 29, 30, 31, 32, 33, 34, 35, 36, 37] (by decide +kernel) (by decide +kernel)
set_option maxRecDepth 20000 in
theorem gX7_eat_X7_meal : GoodIn wsX7_eat (wsV RX7 158 RX7 yX7_meal wsX7_meal) := goodIn_app (goodIn_of _ (by decide +kernel)) ggX7_eat_X7_meal
theorem dX7_eat_0 : decode cX7_eat 0 = .ok (.aload_n 0, 1) := by decide +kernel
theorem dX7_eat_1 : decode cX7_eat 1 = .ok (.iconst 0, 1) := by decide +kernel
theorem dX7_eat_2 : decode cX7_eat 2 = .ok (.putfield 54, 3) := by decide +kernel
theorem dX7_eat_5 : decode cX7_eat 5 = .ok (.iload_n 1, 1) := by decide +kernel
theorem dX7_eat_6 : decode cX7_eat 6 = .ok (.iconst 0, 1) := by decide +kernel
theorem dX7_eat_7 : decode cX7_eat 7 = .ok (.iconst 1, 1) := by decide +kernel
theorem dX7_eat_8 : decode cX7_eat 8 = .ok (.invokestatic 58, 3) := by decide +kernel
theorem dX7_eat_11 : decode cX7_eat 11 = .ok (.ifCond .ne 5, 3) := by decide +kernel
theorem dX7_eat_14 : decode cX7_eat 14 = .ok (.iconst (-1), 1) := by decide +kernel
theorem dX7_eat_15 : decode cX7_eat 15 = .ok (.ireturn, 1) := by decide +kernel
theorem dX7_eat_16 : decode cX7_eat 16 = .ok (.aload_n 0, 1) := by decide +kernel
theorem dX7_eat_17 : decode cX7_eat 17 = .ok (.getfield 25, 3) := by decide +kernel
theorem dX7_eat_20 : decode cX7_eat 20 = .ok (.bipush 58, 2) := by decide +kernel
theorem dX7_eat_22 : decode cX7_eat 22 = .ok (.iaload, 1) := by decide +kernel
theorem dX7_eat_23 : decode cX7_eat 23 = .ok (.iconst 1, 1) := by decide +kernel
theorem dX7_eat_24 : decode cX7_eat 24 = .ok (.if_icmp .ne 6, 3) := by decide +kernel
theorem dX7_eat_27 : decode cX7_eat 27 = .ok (.bipush (-2), 2) := by decide +kernel
theorem dX7_eat_29 : decode cX7_eat 29 = .ok (.ireturn, 1) := by decide +kernel
theorem dX7_eat_30 : decode cX7_eat 30 = .ok (.aload_n 0, 1) := by decide +kernel
theorem dX7_eat_31 : decode cX7_eat 31 = .ok (.getfield 25, 3) := by decide +kernel
theorem dX7_eat_34 : decode cX7_eat 34 = .ok (.bipush 58, 2) := by decide +kernel
theorem dX7_eat_36 : decode cX7_eat 36 = .ok (.iconst 1, 1) := by decide +kernel
theorem dX7_eat_37 : decode cX7_eat 37 = .ok (.iastore, 1) := by decide +kernel
theorem dX7_eat_38 : decode cX7_eat 38 = .ok (.iconst 0, 1) := by decide +kernel
theorem dX7_eat_39 : decode cX7_eat 39 = .ok (.istore_n 2, 1) := by decide +kernel
theorem dX7_eat_40 : decode cX7_eat 40 = .ok (.iconst 0, 1) := by decide +kernel
theorem dX7_eat_41 : decode cX7_eat 41 = .ok (.istore_n 3, 1) := by decide +kernel
theorem dX7_eat_42 : decode cX7_eat 42 = .ok (.iload_n 3, 1) := by decide +kernel
theorem dX7_eat_43 : decode cX7_eat 43 = .ok (.aload_n 0, 1) := by decide +kernel
theorem dX7_eat_44 : decode cX7_eat 44 = .ok (.getfield 122, 3) := by decide +kernel
theorem dX7_eat_47 : decode cX7_eat 47 = .ok (.if_icmp .ge 32, 3) := by decide +kernel
theorem dX7_eat_50 : decode cX7_eat 50 = .ok (.iload_n 2, 1) := by decide +kernel
theorem dX7_eat_51 : decode cX7_eat 51 = .ok (.aload_n 0, 1) := by decide +kernel
theorem dX7_eat_52 : decode cX7_eat 52 = .ok (.iload_n 1, 1) := by decide +kernel
theorem dX7_eat_53 : decode cX7_eat 53 = .ok (.ifCond .ne 7, 3) := by decide +kernel
theorem dX7_eat_56 : decode cX7_eat 56 = .ok (.iload_n 3, 1) := by decide +kernel
theorem dX7_eat_57 : decode cX7_eat 57 = .ok (.goto 11, 3) := by decide +kernel
theorem dX7_eat_60 : decode cX7_eat 60 = .ok (.aload_n 0, 1) := by decide +kernel
theorem dX7_eat_61 : decode cX7_eat 61 = .ok (.getfield 122, 3) := by decide +kernel
theorem dX7_eat_64 : decode cX7_eat 64 = .ok (.iconst 1, 1) := by decide +kernel
theorem dX7_eat_65 : decode cX7_eat 65 = .ok (.isub, 1) := by decide +kernel
theorem dX7_eat_66 : decode cX7_eat 66 = .ok (.iload_n 3, 1) := by decide +kernel
theorem dX7_eat_67 : decode cX7_eat 67 = .ok (.isub, 1) := by decide +kernel
theorem dX7_eat_68 : decode cX7_eat 68 = .ok (.invokevirtual 158, 3) := by decide +kernel
theorem dX7_eat_71 : decode cX7_eat 71 = .ok (.iadd, 1) := by decide +kernel
theorem dX7_eat_72 : decode cX7_eat 72 = .ok (.istore_n 2, 1) := by decide +kernel
theorem dX7_eat_73 : decode cX7_eat 73 = .ok (.iinc 3 1, 3) := by decide +kernel
theorem dX7_eat_76 : decode cX7_eat 76 = .ok (.goto (-34), 3) := by decide +kernel
theorem dX7_eat_79 : decode cX7_eat 79 = .ok (.iload_n 2, 1) := by decide +kernel
theorem dX7_eat_80 : decode cX7_eat 80 = .ok (.ireturn, 1) := by decide +kernel
set_option maxRecDepth 20000 in
theorem ggX7_ate_X7_isHouse : GoodIn wsX7_ate wsX7_isHouse := goodIn_r _ [7, 8, 9, 10, 6, 11, 15, 16, 17, 18, 19, 20, 21, 22, 23, 24, 25, 26, 27, 28, 29, 30, 31, 32, 33, 34, 35, 36, 37, 38] (by decide +kernel) (by decide +kernel)
set_option maxRecDepth 20000 in
theorem gX7_ate_X7_isHouse : GoodIn wsX7_ate (wsV RX7 128 RX7 yX7_isHouse wsX7_isHouse) := goodIn_app (goodIn_of _ (by decide +kernel)) ggX7_ate_X7_isHouse
set_option maxRecDepth 20000 in
theorem ggX7_ate_X7_isSort : GoodIn wsX7_ate wsX7_isSort := goodIn_r _ [14, 9, 10, 6, 11] (by decide +kernel) (by decide +kernel)
set_option maxRecDepth 20000 in
theorem gX7_ate_X7_isSort : GoodIn wsX7_ate (va_wsS RX7 132 yX7_isSort wsX7_isSort) := goodIn_app (goodIn_of _ (by decide +kernel)) ggX7_ate_X7_isSort
theorem dX7_ate_0 : decode cX7_ate 0 = .ok (.aload_n 0, 1) := by decide +kernel
theorem dX7_ate_1 : decode cX7_ate 1 = .ok (.iconst 0, 1) := by decide +kernel
theorem dX7_ate_2 : decode cX7_ate 2 = .ok (.putfield 54, 3) := by decide +kernel
theorem dX7_ate_5 : decode cX7_ate 5 = .ok (.aload_n 0, 1) := by decide +kernel
theorem dX7_ate_6 : decode cX7_ate 6 = .ok (.iload_n 1, 1) := by decide +kernel
theorem dX7_ate_7 : decode cX7_ate 7 = .ok (.invokevirtual 128, 3) := by decide +kernel
theorem dX7_ate_10 : decode cX7_ate 10 = .ok (.ifCond .eq 26, 3) := by decide +kernel
theorem dX7_ate_13 : decode cX7_ate 13 = .ok (.iload_n 2, 1) := by decide +kernel
theorem dX7_ate_14 : decode cX7_ate 14 = .ok (.invokestatic 132, 3) := by decide +kernel
theorem dX7_ate_17 : decode cX7_ate 17 = .ok (.ifCond .eq 19, 3) := by decide +kernel
theorem dX7_ate_20 : decode cX7_ate 20 = .ok (.aload_n 0, 1) := by decide +kernel
theorem dX7_ate_21 : decode cX7_ate 21 = .ok (.getfield 25, 3) := by decide +kernel
theorem dX7_ate_24 : decode cX7_ate 24 = .ok (.bipush 30, 2) := by decide +kernel
theorem dX7_ate_26 : decode cX7_ate 26 = .ok (.iconst 4, 1) := by decide +kernel
theorem dX7_ate_27 : decode cX7_ate 27 = .ok (.iload_n 1, 1) := by decide +kernel
theorem dX7_ate_28 : decode cX7_ate 28 = .ok (.imul, 1) := by decide +kernel
theorem dX7_ate_29 : decode cX7_ate 29 = .ok (.iadd, 1) := by decide +kernel
theorem dX7_ate_30 : decode cX7_ate 30 = .ok (.iload_n 2, 1) := by decide +kernel
theorem dX7_ate_31 : decode cX7_ate 31 = .ok (.iadd, 1) := by decide +kernel
theorem dX7_ate_32 : decode cX7_ate 32 = .ok (.iaload, 1) := by decide +kernel
theorem dX7_ate_33 : decode cX7_ate 33 = .ok (.goto 4, 3) := by decide +kernel
theorem dX7_ate_36 : decode cX7_ate 36 = .ok (.iconst (-1), 1) := by decide +kernel
theorem dX7_ate_37 : decode cX7_ate 37 = .ok (.ireturn, 1) := by decide +kernel
theorem dX7_eatenBy_0 : decode cX7_eatenBy 0 = .ok (.aload_n 0, 1) := by decide +kernel
theorem dX7_eatenBy_1 : decode cX7_eatenBy 1 = .ok (.getfield 25, 3) := by decide +kernel
theorem dX7_eatenBy_4 : decode cX7_eatenBy 4 = .ok (.bipush 30, 2) := by decide +kernel
theorem dX7_eatenBy_6 : decode cX7_eatenBy 6 = .ok (.iconst 4, 1) := by decide +kernel
theorem dX7_eatenBy_7 : decode cX7_eatenBy 7 = .ok (.iload_n 1, 1) := by decide +kernel
theorem dX7_eatenBy_8 : decode cX7_eatenBy 8 = .ok (.imul, 1) := by decide +kernel
theorem dX7_eatenBy_9 : decode cX7_eatenBy 9 = .ok (.iadd, 1) := by decide +kernel
theorem dX7_eatenBy_10 : decode cX7_eatenBy 10 = .ok (.iaload, 1) := by decide +kernel
theorem dX7_eatenBy_11 : decode cX7_eatenBy 11 = .ok (.aload_n 0, 1) := by decide +kernel
theorem dX7_eatenBy_12 : decode cX7_eatenBy 12 = .ok (.getfield 25, 3) := by decide +kernel
theorem dX7_eatenBy_15 : decode cX7_eatenBy 15 = .ok (.bipush 30, 2) := by decide +kernel
theorem dX7_eatenBy_17 : decode cX7_eatenBy 17 = .ok (.iconst 4, 1) := by decide +kernel
theorem dX7_eatenBy_18 : decode cX7_eatenBy 18 = .ok (.iload_n 1, 1) := by decide +kernel
theorem dX7_eatenBy_19 : decode cX7_eatenBy 19 = .ok (.imul, 1) := by decide +kernel
theorem dX7_eatenBy_20 : decode cX7_eatenBy 20 = .ok (.iadd, 1) := by decide +kernel
theorem dX7_eatenBy_21 : decode cX7_eatenBy 21 = .ok (.iconst 1, 1) := by decide +kernel
theorem dX7_eatenBy_22 : decode cX7_eatenBy 22 = .ok (.iadd, 1) := by decide +kernel
theorem dX7_eatenBy_23 : decode cX7_eatenBy 23 = .ok (.iaload, 1) := by decide +kernel
theorem dX7_eatenBy_24 : decode cX7_eatenBy 24 = .ok (.iadd, 1) := by decide +kernel
theorem dX7_eatenBy_25 : decode cX7_eatenBy 25 = .ok (.aload_n 0, 1) := by decide +kernel
theorem dX7_eatenBy_26 : decode cX7_eatenBy 26 = .ok (.getfield 25, 3) := by decide +kernel
theorem dX7_eatenBy_29 : decode cX7_eatenBy 29 = .ok (.bipush 30, 2) := by decide +kernel
theorem dX7_eatenBy_31 : decode cX7_eatenBy 31 = .ok (.iconst 4, 1) := by decide +kernel
theorem dX7_eatenBy_32 : decode cX7_eatenBy 32 = .ok (.iload_n 1, 1) := by decide +kernel
theorem dX7_eatenBy_33 : decode cX7_eatenBy 33 = .ok (.imul, 1) := by decide +kernel
theorem dX7_eatenBy_34 : decode cX7_eatenBy 34 = .ok (.iadd, 1) := by decide +kernel
theorem dX7_eatenBy_35 : decode cX7_eatenBy 35 = .ok (.iconst 2, 1) := by decide +kernel
theorem dX7_eatenBy_36 : decode cX7_eatenBy 36 = .ok (.iadd, 1) := by decide +kernel
theorem dX7_eatenBy_37 : decode cX7_eatenBy 37 = .ok (.iaload, 1) := by decide +kernel
theorem dX7_eatenBy_38 : decode cX7_eatenBy 38 = .ok (.iadd, 1) := by decide +kernel
theorem dX7_eatenBy_39 : decode cX7_eatenBy 39 = .ok (.aload_n 0, 1) := by decide +kernel
theorem dX7_eatenBy_40 : decode cX7_eatenBy 40 = .ok (.getfield 25, 3) := by decide +kernel
theorem dX7_eatenBy_43 : decode cX7_eatenBy 43 = .ok (.bipush 30, 2) := by decide +kernel
theorem dX7_eatenBy_45 : decode cX7_eatenBy 45 = .ok (.iconst 4, 1) := by decide +kernel
theorem dX7_eatenBy_46 : decode cX7_eatenBy 46 = .ok (.iload_n 1, 1) := by decide +kernel
theorem dX7_eatenBy_47 : decode cX7_eatenBy 47 = .ok (.imul, 1) := by decide +kernel
theorem dX7_eatenBy_48 : decode cX7_eatenBy 48 = .ok (.iadd, 1) := by decide +kernel
theorem dX7_eatenBy_49 : decode cX7_eatenBy 49 = .ok (.iconst 3, 1) := by decide +kernel
theorem dX7_eatenBy_50 : decode cX7_eatenBy 50 = .ok (.iadd, 1) := by decide +kernel
theorem dX7_eatenBy_51 : decode cX7_eatenBy 51 = .ok (.iaload, 1) := by decide +kernel
theorem dX7_eatenBy_52 : decode cX7_eatenBy 52 = .ok (.iadd, 1) := by decide +kernel
theorem dX7_eatenBy_53 : decode cX7_eatenBy 53 = .ok (.ireturn, 1) := by decide +kernel
set_option maxRecDepth 20000 in
theorem ggX7_hungry_X7_isHouse : GoodIn wsX7_hungry wsX7_isHouse := goodIn_r _ [8, 9, 10, 11, 7, 12, 17, 18, 19, 20, 21, 22, 23, 24, 25, 26, 27, 28, 29, 30, 31, 32, 33, 34, 35, 36, 37, 38, 39, 40] (by decide +kernel) (by decide +kernel)
set_option maxRecDepth 20000 in
theorem gX7_hungry_X7_isHouse : GoodIn wsX7_hungry (wsV RX7 128 RX7 yX7_isHouse wsX7_isHouse) := goodIn_app (goodIn_of _ (by decide +kernel)) ggX7_hungry_X7_isHouse
set_option maxRecDepth 20000 in
theorem ggX7_hungry_X7_eatenBy : GoodIn wsX7_hungry wsX7_eatenBy := goodIn_r _ [16, 2, 17, 18, 19, 20, 21, 22, 23, 24, 25, 26, 27, 28, 29, 30, 31, 32, 33, 34, 35, 36, 37, 38, 39, 40] (by decide +kernel) (by decide +kernel)
set_option maxRecDepth 20000 in
theorem gX7_hungry_X7_eatenBy : GoodIn wsX7_hungry (wsV RX7 161 RX7 yX7_eatenBy wsX7_eatenBy) := goodIn_app (goodIn_of _ (by decide +kernel)) ggX7_hungry_X7_eatenBy
theorem dX7_hungry_0 : decode cX7_hungry 0 = .ok (.aload_n 0, 1) := by decide +kernel
theorem dX7_hungry_1 : decode cX7_hungry 1 = .ok (.iconst 0, 1) := by decide +kernel
theorem dX7_hungry_2 : decode cX7_hungry 2 = .ok (.putfield 54, 3) := by decide +kernel
theorem dX7_hungry_5 : decode cX7_hungry 5 = .ok (.aload_n 0, 1) := by decide +kernel
theorem dX7_hungry_6 : decode cX7_hungry 6 = .ok (.iload_n 1, 1) := by decide +kernel
theorem dX7_hungry_7 : decode cX7_hungry 7 = .ok (.invokevirtual 128, 3) := by decide +kernel
theorem dX7_hungry_10 : decode cX7_hungry 10 = .ok (.ifCond .ne 7, 3) := by decide +kernel
theorem dX7_hungry_13 : decode cX7_hungry 13 = .ok (.iconst (-1), 1) := by decide +kernel
theorem dX7_hungry_14 : decode cX7_hungry 14 = .ok (.goto 30, 3) := by decide +kernel
theorem dX7_hungry_17 : decode cX7_hungry 17 = .ok (.aload_n 0, 1) := by decide +kernel
theorem dX7_hungry_18 : decode cX7_hungry 18 = .ok (.getfield 25, 3) := by decide +kernel
theorem dX7_hungry_21 : decode cX7_hungry 21 = .ok (.bipush 58, 2) := by decide +kernel
theorem dX7_hungry_23 : decode cX7_hungry 23 = .ok (.iaload, 1) := by decide +kernel
theorem dX7_hungry_24 : decode cX7_hungry 24 = .ok (.ifCond .ne 8, 3) := by decide +kernel
theorem dX7_hungry_27 : decode cX7_hungry 27 = .ok (.bipush (-2), 2) := by decide +kernel
theorem dX7_hungry_29 : decode cX7_hungry 29 = .ok (.goto 15, 3) := by decide +kernel
theorem dX7_hungry_32 : decode cX7_hungry 32 = .ok (.aload_n 0, 1) := by decide +kernel
theorem dX7_hungry_33 : decode cX7_hungry 33 = .ok (.getfield 16, 3) := by decide +kernel
theorem dX7_hungry_36 : decode cX7_hungry 36 = .ok (.iload_n 1, 1) := by decide +kernel
theorem dX7_hungry_37 : decode cX7_hungry 37 = .ok (.iaload, 1) := by decide +kernel
theorem dX7_hungry_38 : decode cX7_hungry 38 = .ok (.aload_n 0, 1) := by decide +kernel
theorem dX7_hungry_39 : decode cX7_hungry 39 = .ok (.iload_n 1, 1) := by decide +kernel
theorem dX7_hungry_40 : decode cX7_hungry 40 = .ok (.invokevirtual 161, 3) := by decide +kernel
theorem dX7_hungry_43 : decode cX7_hungry 43 = .ok (.isub, 1) := by decide +kernel
theorem dX7_hungry_44 : decode cX7_hungry 44 = .ok (.ireturn, 1) := by decide +kernel
theorem dX7_weightThen_0 : decode cX7_weightThen 0 = .ok (.iload_n 1, 1) := by decide +kernel
theorem dX7_weightThen_1 : decode cX7_weightThen 1 = .ok (.ifCond .eq 8, 3) := by decide +kernel
theorem dX7_weightThen_4 : decode cX7_weightThen 4 = .ok (.iload_n 2, 1) := by decide +kernel
theorem dX7_weightThen_5 : decode cX7_weightThen 5 = .ok (.iconst 1, 1) := by decide +kernel
theorem dX7_weightThen_6 : decode cX7_weightThen 6 = .ok (.if_icmp .ne 5, 3) := by decide +kernel
theorem dX7_weightThen_9 : decode cX7_weightThen 9 = .ok (.iload_n 1, 1) := by decide +kernel
theorem dX7_weightThen_10 : decode cX7_weightThen 10 = .ok (.ireturn, 1) := by decide +kernel
theorem dX7_weightThen_11 : decode cX7_weightThen 11 = .ok (.iload_n 2, 1) := by decide +kernel
theorem dX7_weightThen_12 : decode cX7_weightThen 12 = .ok (.ifCond .ne 14, 3) := by decide +kernel
theorem dX7_weightThen_15 : decode cX7_weightThen 15 = .ok (.iload_n 1, 1) := by decide +kernel
theorem dX7_weightThen_16 : decode cX7_weightThen 16 = .ok (.aload_n 0, 1) := by decide +kernel
theorem dX7_weightThen_17 : decode cX7_weightThen 17 = .ok (.getfield 22, 3) := by decide +kernel
theorem dX7_weightThen_20 : decode cX7_weightThen 20 = .ok (.iconst 2, 1) := by decide +kernel
theorem dX7_weightThen_21 : decode cX7_weightThen 21 = .ok (.iaload, 1) := by decide +kernel
theorem dX7_weightThen_22 : decode cX7_weightThen 22 = .ok (.iadd, 1) := by decide +kernel
theorem dX7_weightThen_23 : decode cX7_weightThen 23 = .ok (.goto 11, 3) := by decide +kernel
theorem dX7_weightThen_26 : decode cX7_weightThen 26 = .ok (.iload_n 1, 1) := by decide +kernel
theorem dX7_weightThen_27 : decode cX7_weightThen 27 = .ok (.aload_n 0, 1) := by decide +kernel
theorem dX7_weightThen_28 : decode cX7_weightThen 28 = .ok (.getfield 22, 3) := by decide +kernel
theorem dX7_weightThen_31 : decode cX7_weightThen 31 = .ok (.iconst 2, 1) := by decide +kernel
theorem dX7_weightThen_32 : decode cX7_weightThen 32 = .ok (.iaload, 1) := by decide +kernel
theorem dX7_weightThen_33 : decode cX7_weightThen 33 = .ok (.isub, 1) := by decide +kernel
theorem dX7_weightThen_34 : decode cX7_weightThen 34 = .ok (.istore_n 3, 1) := by decide +kernel
theorem dX7_weightThen_35 : decode cX7_weightThen 35 = .ok (.iload_n 3, 1) := by decide +kernel
theorem dX7_weightThen_36 : decode cX7_weightThen 36 = .ok (.bipush 9, 2) := by decide +kernel
theorem dX7_weightThen_38 : decode cX7_weightThen 38 = .ok (.if_icmp .le 8, 3) := by decide +kernel
theorem dX7_weightThen_41 : decode cX7_weightThen 41 = .ok (.bipush 9, 2) := by decide +kernel
theorem dX7_weightThen_43 : decode cX7_weightThen 43 = .ok (.goto 13, 3) := by decide +kernel
theorem dX7_weightThen_46 : decode cX7_weightThen 46 = .ok (.iload_n 3, 1) := by decide +kernel
theorem dX7_weightThen_47 : decode cX7_weightThen 47 = .ok (.iconst 1, 1) := by decide +kernel
theorem dX7_weightThen_48 : decode cX7_weightThen 48 = .ok (.if_icmp .ge 7, 3) := by decide +kernel
theorem dX7_weightThen_51 : decode cX7_weightThen 51 = .ok (.iconst 1, 1) := by decide +kernel
theorem dX7_weightThen_52 : decode cX7_weightThen 52 = .ok (.goto 4, 3) := by decide +kernel
theorem dX7_weightThen_55 : decode cX7_weightThen 55 = .ok (.iload_n 3, 1) := by decide +kernel
theorem dX7_weightThen_56 : decode cX7_weightThen 56 = .ok (.ireturn, 1) := by decide +kernel
set_option maxRecDepth 20000 in
theorem ggX7_year_X7_broughtBy : GoodIn wsX7_year wsX7_broughtBy := goodIn_r _ [8, 2, 3, 18, 19, 20, 21, 22, 23, 24, 25, 26, 27, 28, 29, 30, 31, 32, 33, 34, 35, 36, 37, 38, 39, 40, 41] (by decide +kernel) (by decide +kernel)
set_option maxRecDepth 20000 in
theorem gX7_year_X7_broughtBy : GoodIn wsX7_year (wsV RX7 143 RX7 yX7_broughtBy wsX7_broughtBy) := goodIn_app (goodIn_of _ (by decide +kernel)) ggX7_year_X7_broughtBy
set_option maxRecDepth 20000 in
theorem ggX7_year_X7_weightThen : GoodIn wsX7_year wsX7_weightThen := goodIn_r _ [12, 13, 18, 19, 20, 21, 22, 23, 24, 25, 26, 27, 28, 29, 30, 31, 32, 33, 34, 35, 36, 37, 38, 39, 40, 41] (by decide +kernel) (by decide +kernel)
set_option maxRecDepth 20000 in
theorem gX7_year_X7_weightThen : GoodIn wsX7_year (wsV RX7 164 RX7 yX7_weightThen wsX7_weightThen) := goodIn_app (goodIn_of _ (by decide +kernel)) ggX7_year_X7_weightThen
set_option maxRecDepth 20000 in
theorem ggX7_year_X7_clears : GoodIn wsX7_year wsX7_clears := goodIn_r _ [17, 3, 18, 19, 20, 21, 22, 23, 24, 25, 26, 27, 28, 29, 30, 31, 32, 33, 34, 35, 36, 37, 38, 39, 40, 41] (by decide +kernel) (by decide +kernel)
set_option maxRecDepth 20000 in
theorem gX7_year_X7_clears : GoodIn wsX7_year (wsV RX7 125 RX7 yX7_clears wsX7_clears) := goodIn_app (goodIn_of _ (by decide +kernel)) ggX7_year_X7_clears
theorem dX7_year_0 : decode cX7_year 0 = .ok (.aload_n 0, 1) := by decide +kernel
theorem dX7_year_1 : decode cX7_year 1 = .ok (.iconst 0, 1) := by decide +kernel
theorem dX7_year_2 : decode cX7_year 2 = .ok (.putfield 54, 3) := by decide +kernel
theorem dX7_year_5 : decode cX7_year 5 = .ok (.iconst 0, 1) := by decide +kernel
theorem dX7_year_6 : decode cX7_year 6 = .ok (.istore_n 1, 1) := by decide +kernel
theorem dX7_year_7 : decode cX7_year 7 = .ok (.iload_n 1, 1) := by decide +kernel
theorem dX7_year_8 : decode cX7_year 8 = .ok (.iconst 4, 1) := by decide +kernel
theorem dX7_year_9 : decode cX7_year 9 = .ok (.if_icmp .ge 56, 3) := by decide +kernel
theorem dX7_year_12 : decode cX7_year 12 = .ok (.aload_n 0, 1) := by decide +kernel
theorem dX7_year_13 : decode cX7_year 13 = .ok (.iload_n 1, 1) := by decide +kernel
theorem dX7_year_14 : decode cX7_year 14 = .ok (.invokevirtual 143, 3) := by decide +kernel
theorem dX7_year_17 : decode cX7_year 17 = .ok (.istore_n 2, 1) := by decide +kernel
theorem dX7_year_18 : decode cX7_year 18 = .ok (.iconst 0, 1) := by decide +kernel
theorem dX7_year_19 : decode cX7_year 19 = .ok (.istore_n 3, 1) := by decide +kernel
theorem dX7_year_20 : decode cX7_year 20 = .ok (.iload_n 3, 1) := by decide +kernel
theorem dX7_year_21 : decode cX7_year 21 = .ok (.aload_n 0, 1) := by decide +kernel
theorem dX7_year_22 : decode cX7_year 22 = .ok (.getfield 122, 3) := by decide +kernel
theorem dX7_year_25 : decode cX7_year 25 = .ok (.if_icmp .ge 34, 3) := by decide +kernel
theorem dX7_year_28 : decode cX7_year 28 = .ok (.aload_n 0, 1) := by decide +kernel
theorem dX7_year_29 : decode cX7_year 29 = .ok (.getfield 25, 3) := by decide +kernel
theorem dX7_year_32 : decode cX7_year 32 = .ok (.iconst 4, 1) := by decide +kernel
theorem dX7_year_33 : decode cX7_year 33 = .ok (.iload_n 3, 1) := by decide +kernel
theorem dX7_year_34 : decode cX7_year 34 = .ok (.imul, 1) := by decide +kernel
theorem dX7_year_35 : decode cX7_year 35 = .ok (.iload_n 1, 1) := by decide +kernel
theorem dX7_year_36 : decode cX7_year 36 = .ok (.iadd, 1) := by decide +kernel
theorem dX7_year_37 : decode cX7_year 37 = .ok (.aload_n 0, 1) := by decide +kernel
theorem dX7_year_38 : decode cX7_year 38 = .ok (.aload_n 0, 1) := by decide +kernel
theorem dX7_year_39 : decode cX7_year 39 = .ok (.getfield 25, 3) := by decide +kernel
theorem dX7_year_42 : decode cX7_year 42 = .ok (.iconst 4, 1) := by decide +kernel
theorem dX7_year_43 : decode cX7_year 43 = .ok (.iload_n 3, 1) := by decide +kernel
theorem dX7_year_44 : decode cX7_year 44 = .ok (.imul, 1) := by decide +kernel
theorem dX7_year_45 : decode cX7_year 45 = .ok (.iload_n 1, 1) := by decide +kernel
theorem dX7_year_46 : decode cX7_year 46 = .ok (.iadd, 1) := by decide +kernel
theorem dX7_year_47 : decode cX7_year 47 = .ok (.iaload, 1) := by decide +kernel
theorem dX7_year_48 : decode cX7_year 48 = .ok (.iload_n 2, 1) := by decide +kernel
theorem dX7_year_49 : decode cX7_year 49 = .ok (.invokevirtual 164, 3) := by decide +kernel
theorem dX7_year_52 : decode cX7_year 52 = .ok (.iastore, 1) := by decide +kernel
theorem dX7_year_53 : decode cX7_year 53 = .ok (.iinc 3 1, 3) := by decide +kernel
theorem dX7_year_56 : decode cX7_year 56 = .ok (.goto (-36), 3) := by decide +kernel
theorem dX7_year_59 : decode cX7_year 59 = .ok (.iinc 1 1, 3) := by decide +kernel
theorem dX7_year_62 : decode cX7_year 62 = .ok (.goto (-55), 3) := by decide +kernel
theorem dX7_year_65 : decode cX7_year 65 = .ok (.aload_n 0, 1) := by decide +kernel
theorem dX7_year_66 : decode cX7_year 66 = .ok (.invokevirtual 125, 3) := by decide +kernel
theorem dX7_year_69 : decode cX7_year 69 = .ok (.aload_n 0, 1) := by decide +kernel
theorem dX7_year_70 : decode cX7_year 70 = .ok (.getfield 25, 3) := by decide +kernel
theorem dX7_year_73 : decode cX7_year 73 = .ok (.bipush 65, 2) := by decide +kernel
theorem dX7_year_75 : decode cX7_year 75 = .ok (.dup2, 1) := by decide +kernel
theorem dX7_year_76 : decode cX7_year 76 = .ok (.iaload, 1) := by decide +kernel
theorem dX7_year_77 : decode cX7_year 77 = .ok (.iconst 1, 1) := by decide +kernel
theorem dX7_year_78 : decode cX7_year 78 = .ok (.iadd, 1) := by decide +kernel
theorem dX7_year_79 : decode cX7_year 79 = .ok (.iastore, 1) := by decide +kernel
theorem dX7_year_80 : decode cX7_year 80 = .ok (.aload_n 0, 1) := by decide +kernel
theorem dX7_year_81 : decode cX7_year 81 = .ok (.getfield 25, 3) := by decide +kernel
theorem dX7_year_84 : decode cX7_year 84 = .ok (.bipush 65, 2) := by decide +kernel
theorem dX7_year_86 : decode cX7_year 86 = .ok (.iaload, 1) := by decide +kernel
theorem dX7_year_87 : decode cX7_year 87 = .ok (.ireturn, 1) := by decide +kernel
theorem dX7_lot_0 : decode cX7_lot 0 = .ok (.aload_n 0, 1) := by decide +kernel
theorem dX7_lot_1 : decode cX7_lot 1 = .ok (.iconst 0, 1) := by decide +kernel
theorem dX7_lot_2 : decode cX7_lot 2 = .ok (.putfield 54, 3) := by decide +kernel
theorem dX7_lot_5 : decode cX7_lot 5 = .ok (.aload_n 0, 1) := by decide +kernel
theorem dX7_lot_6 : decode cX7_lot 6 = .ok (.getfield 25, 3) := by decide +kernel
theorem dX7_lot_9 : decode cX7_lot 9 = .ok (.bipush 66, 2) := by decide +kernel
theorem dX7_lot_11 : decode cX7_lot 11 = .ok (.iaload, 1) := by decide +kernel
theorem dX7_lot_12 : decode cX7_lot 12 = .ok (.istore_n 2, 1) := by decide +kernel
theorem dX7_lot_13 : decode cX7_lot 13 = .ok (.aload_n 0, 1) := by decide +kernel
theorem dX7_lot_14 : decode cX7_lot 14 = .ok (.getfield 25, 3) := by decide +kernel
theorem dX7_lot_17 : decode cX7_lot 17 = .ok (.bipush 66, 2) := by decide +kernel
theorem dX7_lot_19 : decode cX7_lot 19 = .ok (.iload_n 1, 1) := by decide +kernel
theorem dX7_lot_20 : decode cX7_lot 20 = .ok (.iastore, 1) := by decide +kernel
theorem dX7_lot_21 : decode cX7_lot 21 = .ok (.iload_n 2, 1) := by decide +kernel
theorem dX7_lot_22 : decode cX7_lot 22 = .ok (.ireturn, 1) := by decide +kernel
theorem dX7_gcd_0 : decode cX7_gcd 0 = .ok (.lload_n 0, 1) := by decide +kernel
theorem dX7_gcd_1 : decode cX7_gcd 1 = .ok (.lstore 4, 2) := by decide +kernel
theorem dX7_gcd_3 : decode cX7_gcd 3 = .ok (.lload_n 2, 1) := by decide +kernel
theorem dX7_gcd_4 : decode cX7_gcd 4 = .ok (.lstore 6, 2) := by decide +kernel
theorem dX7_gcd_6 : decode cX7_gcd 6 = .ok (.lload 6, 2) := by decide +kernel
theorem dX7_gcd_8 : decode cX7_gcd 8 = .ok (.lconst 0, 1) := by decide +kernel
theorem dX7_gcd_9 : decode cX7_gcd 9 = .ok (.lcmp, 1) := by decide +kernel
theorem dX7_gcd_10 : decode cX7_gcd 10 = .ok (.ifCond .eq 21, 3) := by decide +kernel
theorem dX7_gcd_13 : decode cX7_gcd 13 = .ok (.lload 4, 2) := by decide +kernel
theorem dX7_gcd_15 : decode cX7_gcd 15 = .ok (.lload 6, 2) := by decide +kernel
theorem dX7_gcd_17 : decode cX7_gcd 17 = .ok (.lrem, 1) := by decide +kernel
theorem dX7_gcd_18 : decode cX7_gcd 18 = .ok (.lstore 8, 2) := by decide +kernel
theorem dX7_gcd_20 : decode cX7_gcd 20 = .ok (.lload 6, 2) := by decide +kernel
theorem dX7_gcd_22 : decode cX7_gcd 22 = .ok (.lstore 4, 2) := by decide +kernel
theorem dX7_gcd_24 : decode cX7_gcd 24 = .ok (.lload 8, 2) := by decide +kernel
theorem dX7_gcd_26 : decode cX7_gcd 26 = .ok (.lstore 6, 2) := by decide +kernel
theorem dX7_gcd_28 : decode cX7_gcd 28 = .ok (.goto (-22), 3) := by decide +kernel
theorem dX7_gcd_31 : decode cX7_gcd 31 = .ok (.lload 4, 2) := by decide +kernel
theorem dX7_gcd_33 : decode cX7_gcd 33 = .ok (.lreturn, 1) := by decide +kernel
set_option maxRecDepth 20000 in
theorem ggX7_inLeastTerms_X7_gcd : GoodIn wsX7_inLeastTerms wsX7_gcd := goodIn_r _ [4] (by decide +kernel) (by decide +kernel)
set_option maxRecDepth 20000 in
theorem gX7_inLeastTerms_X7_gcd : GoodIn wsX7_inLeastTerms (va_wsS RX7 167 yX7_gcd wsX7_gcd) := goodIn_app (goodIn_of _ (by decide +kernel)) ggX7_inLeastTerms_X7_gcd
theorem dX7_inLeastTerms_0 : decode cX7_inLeastTerms 0 = .ok (.lload_n 0, 1) := by decide +kernel
theorem dX7_inLeastTerms_1 : decode cX7_inLeastTerms 1 = .ok (.lload_n 2, 1) := by decide +kernel
theorem dX7_inLeastTerms_2 : decode cX7_inLeastTerms 2 = .ok (.invokestatic 167, 3) := by decide +kernel
theorem dX7_inLeastTerms_5 : decode cX7_inLeastTerms 5 = .ok (.lstore 5, 2) := by decide +kernel
theorem dX7_inLeastTerms_7 : decode cX7_inLeastTerms 7 = .ok (.iload 4, 2) := by decide +kernel
theorem dX7_inLeastTerms_9 : decode cX7_inLeastTerms 9 = .ok (.ifCond .ne 10, 3) := by decide +kernel
theorem dX7_inLeastTerms_12 : decode cX7_inLeastTerms 12 = .ok (.lload_n 0, 1) := by decide +kernel
theorem dX7_inLeastTerms_13 : decode cX7_inLeastTerms 13 = .ok (.lload 5, 2) := by decide +kernel
theorem dX7_inLeastTerms_15 : decode cX7_inLeastTerms 15 = .ok (.ldiv, 1) := by decide +kernel
theorem dX7_inLeastTerms_16 : decode cX7_inLeastTerms 16 = .ok (.goto 7, 3) := by decide +kernel
theorem dX7_inLeastTerms_19 : decode cX7_inLeastTerms 19 = .ok (.lload_n 2, 1) := by decide +kernel
theorem dX7_inLeastTerms_20 : decode cX7_inLeastTerms 20 = .ok (.lload 5, 2) := by decide +kernel
theorem dX7_inLeastTerms_22 : decode cX7_inLeastTerms 22 = .ok (.ldiv, 1) := by decide +kernel
theorem dX7_inLeastTerms_23 : decode cX7_inLeastTerms 23 = .ok (.lreturn, 1) := by decide +kernel
set_option maxRecDepth 20000 in
theorem ggX7_odds_X7_isSort : GoodIn wsX7_odds wsX7_isSort := goodIn_r _ [9, 10, 11, 8, 12] (by decide +kernel) (by decide +kernel)
set_option maxRecDepth 20000 in
theorem gX7_odds_X7_isSort : GoodIn wsX7_odds (va_wsS RX7 132 yX7_isSort wsX7_isSort) := goodIn_app (goodIn_of _ (by decide +kernel)) ggX7_odds_X7_isSort
set_option maxRecDepth 20000 in
theorem ggX7_odds_X7_in : GoodIn wsX7_odds wsX7_in := goodIn_r _ [12] (by decide +kernel) (by decide +kernel)
set_option maxRecDepth 20000 in
theorem gX7_odds_X7_in : GoodIn wsX7_odds (va_wsS RX7 58 yX7_in wsX7_in) := goodIn_app (goodIn_of _ (by decide +kernel)) ggX7_odds_X7_in
set_option maxRecDepth 20000 in
theorem ggX7_odds_X7_weightsOf : GoodIn wsX7_odds wsX7_weightsOf := goodIn_r _ [16, 5, 23, 24, 25, 26, 27, 28, 29, 30, 31, 32, 33, 34, 35, 36, 37, 38, 39, 40, 41, 42, 43, 44, 45, 46] (by decide +kernel) (by decide +kernel)
set_option maxRecDepth 20000 in
theorem gX7_odds_X7_weightsOf : GoodIn wsX7_odds (wsV RX7 140 RX7 yX7_weightsOf wsX7_weightsOf) := goodIn_app (goodIn_of _ (by decide +kernel)) ggX7_odds_X7_weightsOf
set_option maxRecDepth 20000 in
theorem ggX7_odds_X7_inLeastTerms : GoodIn wsX7_odds wsX7_inLeastTerms := goodIn_r _ [19, 20, 21, 8, 22] (by decide +kernel) (by decide +kernel)
set_option maxRecDepth 20000 in
theorem gX7_odds_X7_inLeastTerms : GoodIn wsX7_odds (va_wsS RX7 173 yX7_inLeastTerms wsX7_inLeastTerms) := goodIn_app (goodIn_of _ (by decide +kernel)) ggX7_odds_X7_inLeastTerms
theorem dX7_odds_0 : decode cX7_odds 0 = .ok (.aload_n 0, 1) := by decide +kernel
theorem dX7_odds_1 : decode cX7_odds 1 = .ok (.iconst 0, 1) := by decide +kernel
theorem dX7_odds_2 : decode cX7_odds 2 = .ok (.putfield 54, 3) := by decide +kernel
theorem dX7_odds_5 : decode cX7_odds 5 = .ok (.iload_n 1, 1) := by decide +kernel
theorem dX7_odds_6 : decode cX7_odds 6 = .ok (.invokestatic 132, 3) := by decide +kernel
theorem dX7_odds_9 : decode cX7_odds 9 = .ok (.ifCond .eq 22, 3) := by decide +kernel
theorem dX7_odds_12 : decode cX7_odds 12 = .ok (.iload_n 2, 1) := by decide +kernel
theorem dX7_odds_13 : decode cX7_odds 13 = .ok (.iconst 0, 1) := by decide +kernel
theorem dX7_odds_14 : decode cX7_odds 14 = .ok (.bipush 6, 2) := by decide +kernel
theorem dX7_odds_16 : decode cX7_odds 16 = .ok (.invokestatic 58, 3) := by decide +kernel
theorem dX7_odds_19 : decode cX7_odds 19 = .ok (.ifCond .eq 12, 3) := by decide +kernel
theorem dX7_odds_22 : decode cX7_odds 22 = .ok (.iload_n 3, 1) := by decide +kernel
theorem dX7_odds_23 : decode cX7_odds 23 = .ok (.iconst 0, 1) := by decide +kernel
theorem dX7_odds_24 : decode cX7_odds 24 = .ok (.iconst 1, 1) := by decide +kernel
theorem dX7_odds_25 : decode cX7_odds 25 = .ok (.invokestatic 58, 3) := by decide +kernel
theorem dX7_odds_28 : decode cX7_odds 28 = .ok (.ifCond .ne 7, 3) := by decide +kernel
