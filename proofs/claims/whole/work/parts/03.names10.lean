theorem dX7_areAlike_2 : decode cX7_areAlike 2 = .ok (.iconst 0, 1) := by decide +kernel
theorem dX7_areAlike_3 : decode cX7_areAlike 3 = .ok (.istore 4, 2) := by decide +kernel
theorem dX7_areAlike_5 : decode cX7_areAlike 5 = .ok (.iload 4, 2) := by decide +kernel
theorem dX7_areAlike_7 : decode cX7_areAlike 7 = .ok (.iconst 4, 1) := by decide +kernel
theorem dX7_areAlike_8 : decode cX7_areAlike 8 = .ok (.aload_n 0, 1) := by decide +kernel
theorem dX7_areAlike_9 : decode cX7_areAlike 9 = .ok (.getfield 122, 3) := by decide +kernel
theorem dX7_areAlike_12 : decode cX7_areAlike 12 = .ok (.imul, 1) := by decide +kernel
theorem dX7_areAlike_13 : decode cX7_areAlike 13 = .ok (.if_icmp .ge 46, 3) := by decide +kernel
theorem dX7_areAlike_16 : decode cX7_areAlike 16 = .ok (.iload_n 3, 1) := by decide +kernel
theorem dX7_areAlike_17 : decode cX7_areAlike 17 = .ok (.ifCond .eq 34, 3) := by decide +kernel
theorem dX7_areAlike_20 : decode cX7_areAlike 20 = .ok (.aload_n 0, 1) := by decide +kernel
theorem dX7_areAlike_21 : decode cX7_areAlike 21 = .ok (.getfield 35, 3) := by decide +kernel
theorem dX7_areAlike_24 : decode cX7_areAlike 24 = .ok (.bipush 24, 2) := by decide +kernel
theorem dX7_areAlike_26 : decode cX7_areAlike 26 = .ok (.iload_n 1, 1) := by decide +kernel
theorem dX7_areAlike_27 : decode cX7_areAlike 27 = .ok (.imul, 1) := by decide +kernel
theorem dX7_areAlike_28 : decode cX7_areAlike 28 = .ok (.iload 4, 2) := by decide +kernel
theorem dX7_areAlike_30 : decode cX7_areAlike 30 = .ok (.iadd, 1) := by decide +kernel
theorem dX7_areAlike_31 : decode cX7_areAlike 31 = .ok (.iaload, 1) := by decide +kernel
theorem dX7_areAlike_32 : decode cX7_areAlike 32 = .ok (.aload_n 0, 1) := by decide +kernel
theorem dX7_areAlike_33 : decode cX7_areAlike 33 = .ok (.getfield 35, 3) := by decide +kernel
theorem dX7_areAlike_36 : decode cX7_areAlike 36 = .ok (.bipush 24, 2) := by decide +kernel
theorem dX7_areAlike_38 : decode cX7_areAlike 38 = .ok (.iload_n 2, 1) := by decide +kernel
theorem dX7_areAlike_39 : decode cX7_areAlike 39 = .ok (.imul, 1) := by decide +kernel
theorem dX7_areAlike_40 : decode cX7_areAlike 40 = .ok (.iload 4, 2) := by decide +kernel
theorem dX7_areAlike_42 : decode cX7_areAlike 42 = .ok (.iadd, 1) := by decide +kernel
theorem dX7_areAlike_43 : decode cX7_areAlike 43 = .ok (.iaload, 1) := by decide +kernel
theorem dX7_areAlike_44 : decode cX7_areAlike 44 = .ok (.if_icmp .ne 7, 3) := by decide +kernel
theorem dX7_areAlike_47 : decode cX7_areAlike 47 = .ok (.iconst 1, 1) := by decide +kernel
theorem dX7_areAlike_48 : decode cX7_areAlike 48 = .ok (.goto 4, 3) := by decide +kernel
theorem dX7_areAlike_51 : decode cX7_areAlike 51 = .ok (.iconst 0, 1) := by decide +kernel
theorem dX7_areAlike_52 : decode cX7_areAlike 52 = .ok (.istore_n 3, 1) := by decide +kernel
theorem dX7_areAlike_53 : decode cX7_areAlike 53 = .ok (.iinc 4 1, 3) := by decide +kernel
theorem dX7_areAlike_56 : decode cX7_areAlike 56 = .ok (.goto (-51), 3) := by decide +kernel
theorem dX7_areAlike_59 : decode cX7_areAlike 59 = .ok (.iload_n 3, 1) := by decide +kernel
theorem dX7_areAlike_60 : decode cX7_areAlike 60 = .ok (.ireturn, 1) := by decide +kernel
set_option maxRecDepth 20000 in
theorem ggX7_swings_X7_in : GoodIn wsX7_swings wsX7_in := goodIn_r _ [7] (by decide +kernel) (by decide +kernel)
set_option maxRecDepth 20000 in
theorem gX7_swings_X7_in : GoodIn wsX7_swings (va_wsS RX7 58 yX7_in wsX7_in) := goodIn_app (goodIn_of _ (by decide +kernel)) ggX7_swings_X7_in
set_option maxRecDepth 20000 in
theorem ggX7_swings_X7_goesBy : GoodIn wsX7_swings wsX7_goesBy := goodIn_r _ [11, 12, 2, 13, 14, 15, 6, 16, 3, 17, 18, 19, 20, 21, 26, 27, 28, 29, 30, 31, 32, 33, 34, 35, 36, 37, 38, 39, 40, 41, 42, 43, 44, 45, 46, 47, 48, 49] (by decide +kernel) (by decide +kernel)
set_option maxRecDepth 20000 in
theorem gX7_swings_X7_goesBy : GoodIn wsX7_swings (wsV RX7 192 RX7 yX7_goesBy wsX7_goesBy) := goodIn_app (goodIn_of _ (by decide +kernel)) ggX7_swings_X7_goesBy
set_option maxRecDepth 20000 in
theorem ggX7_swings_X7_areAlike : GoodIn wsX7_swings wsX7_areAlike := goodIn_r _ [25, 12, 2, 26, 27, 28, 29, 30, 31, 32, 33, 34, 35, 36, 37, 38, 39, 40, 41, 42, 43, 44, 45, 46, 47, 48, 49] (by decide +kernel) (by decide +kernel)
set_option maxRecDepth 20000 in
theorem gX7_swings_X7_areAlike : GoodIn wsX7_swings (wsV RX7 196 RX7 yX7_areAlike wsX7_areAlike) := goodIn_app (goodIn_of _ (by decide +kernel)) ggX7_swings_X7_areAlike
theorem dX7_swings_0 : decode cX7_swings 0 = .ok (.aload_n 0, 1) := by decide +kernel
theorem dX7_swings_1 : decode cX7_swings 1 = .ok (.iconst 0, 1) := by decide +kernel
theorem dX7_swings_2 : decode cX7_swings 2 = .ok (.putfield 54, 3) := by decide +kernel
theorem dX7_swings_5 : decode cX7_swings 5 = .ok (.iload_n 1, 1) := by decide +kernel
theorem dX7_swings_6 : decode cX7_swings 6 = .ok (.iconst 0, 1) := by decide +kernel
theorem dX7_swings_7 : decode cX7_swings 7 = .ok (.iconst 1, 1) := by decide +kernel
theorem dX7_swings_8 : decode cX7_swings 8 = .ok (.invokestatic 58, 3) := by decide +kernel
theorem dX7_swings_11 : decode cX7_swings 11 = .ok (.ifCond .ne 5, 3) := by decide +kernel
theorem dX7_swings_14 : decode cX7_swings 14 = .ok (.iconst (-1), 1) := by decide +kernel
theorem dX7_swings_15 : decode cX7_swings 15 = .ok (.ireturn, 1) := by decide +kernel
theorem dX7_swings_16 : decode cX7_swings 16 = .ok (.iconst 0, 1) := by decide +kernel
theorem dX7_swings_17 : decode cX7_swings 17 = .ok (.istore_n 2, 1) := by decide +kernel
theorem dX7_swings_18 : decode cX7_swings 18 = .ok (.iload_n 2, 1) := by decide +kernel
theorem dX7_swings_19 : decode cX7_swings 19 = .ok (.bipush 24, 2) := by decide +kernel
theorem dX7_swings_21 : decode cX7_swings 21 = .ok (.if_icmp .ge 21, 3) := by decide +kernel
theorem dX7_swings_24 : decode cX7_swings 24 = .ok (.aload_n 0, 1) := by decide +kernel
theorem dX7_swings_25 : decode cX7_swings 25 = .ok (.getfield 35, 3) := by decide +kernel
theorem dX7_swings_28 : decode cX7_swings 28 = .ok (.iload_n 2, 1) := by decide +kernel
theorem dX7_swings_29 : decode cX7_swings 29 = .ok (.aload_n 0, 1) := by decide +kernel
theorem dX7_swings_30 : decode cX7_swings 30 = .ok (.getfield 25, 3) := by decide +kernel
theorem dX7_swings_33 : decode cX7_swings 33 = .ok (.iload_n 2, 1) := by decide +kernel
theorem dX7_swings_34 : decode cX7_swings 34 = .ok (.iaload, 1) := by decide +kernel
theorem dX7_swings_35 : decode cX7_swings 35 = .ok (.iastore, 1) := by decide +kernel
theorem dX7_swings_36 : decode cX7_swings 36 = .ok (.iinc 2 1, 3) := by decide +kernel
theorem dX7_swings_39 : decode cX7_swings 39 = .ok (.goto (-21), 3) := by decide +kernel
theorem dX7_swings_42 : decode cX7_swings 42 = .ok (.iconst 1, 1) := by decide +kernel
theorem dX7_swings_43 : decode cX7_swings 43 = .ok (.istore_n 2, 1) := by decide +kernel
theorem dX7_swings_44 : decode cX7_swings 44 = .ok (.iload_n 2, 1) := by decide +kernel
theorem dX7_swings_45 : decode cX7_swings 45 = .ok (.sipush 201, 3) := by decide +kernel
theorem dX7_swings_48 : decode cX7_swings 48 = .ok (.if_icmp .ge 23, 3) := by decide +kernel
theorem dX7_swings_51 : decode cX7_swings 51 = .ok (.aload_n 0, 1) := by decide +kernel
theorem dX7_swings_52 : decode cX7_swings 52 = .ok (.bipush 24, 2) := by decide +kernel
theorem dX7_swings_54 : decode cX7_swings 54 = .ok (.iload_n 2, 1) := by decide +kernel
theorem dX7_swings_55 : decode cX7_swings 55 = .ok (.iconst 1, 1) := by decide +kernel
theorem dX7_swings_56 : decode cX7_swings 56 = .ok (.isub, 1) := by decide +kernel
theorem dX7_swings_57 : decode cX7_swings 57 = .ok (.imul, 1) := by decide +kernel
theorem dX7_swings_58 : decode cX7_swings 58 = .ok (.bipush 24, 2) := by decide +kernel
theorem dX7_swings_60 : decode cX7_swings 60 = .ok (.iload_n 2, 1) := by decide +kernel
theorem dX7_swings_61 : decode cX7_swings 61 = .ok (.imul, 1) := by decide +kernel
theorem dX7_swings_62 : decode cX7_swings 62 = .ok (.invokevirtual 192, 3) := by decide +kernel
theorem dX7_swings_65 : decode cX7_swings 65 = .ok (.iinc 2 1, 3) := by decide +kernel
theorem dX7_swings_68 : decode cX7_swings 68 = .ok (.goto (-24), 3) := by decide +kernel
theorem dX7_swings_71 : decode cX7_swings 71 = .ok (.iconst 0, 1) := by decide +kernel
theorem dX7_swings_72 : decode cX7_swings 72 = .ok (.istore_n 2, 1) := by decide +kernel
theorem dX7_swings_73 : decode cX7_swings 73 = .ok (.iload_n 2, 1) := by decide +kernel
theorem dX7_swings_74 : decode cX7_swings 74 = .ok (.sipush 200, 3) := by decide +kernel
theorem dX7_swings_77 : decode cX7_swings 77 = .ok (.if_icmp .ge 47, 3) := by decide +kernel
theorem dX7_swings_80 : decode cX7_swings 80 = .ok (.iload_n 2, 1) := by decide +kernel
theorem dX7_swings_81 : decode cX7_swings 81 = .ok (.iconst 1, 1) := by decide +kernel
theorem dX7_swings_82 : decode cX7_swings 82 = .ok (.iadd, 1) := by decide +kernel
theorem dX7_swings_83 : decode cX7_swings 83 = .ok (.istore_n 3, 1) := by decide +kernel
theorem dX7_swings_84 : decode cX7_swings 84 = .ok (.iload_n 3, 1) := by decide +kernel
theorem dX7_swings_85 : decode cX7_swings 85 = .ok (.sipush 201, 3) := by decide +kernel
theorem dX7_swings_88 : decode cX7_swings 88 = .ok (.if_icmp .ge 30, 3) := by decide +kernel
theorem dX7_swings_91 : decode cX7_swings 91 = .ok (.aload_n 0, 1) := by decide +kernel
theorem dX7_swings_92 : decode cX7_swings 92 = .ok (.iload_n 2, 1) := by decide +kernel
theorem dX7_swings_93 : decode cX7_swings 93 = .ok (.iload_n 3, 1) := by decide +kernel
theorem dX7_swings_94 : decode cX7_swings 94 = .ok (.invokevirtual 196, 3) := by decide +kernel
theorem dX7_swings_97 : decode cX7_swings 97 = .ok (.ifCond .eq 15, 3) := by decide +kernel
theorem dX7_swings_100 : decode cX7_swings 100 = .ok (.iload_n 1, 1) := by decide +kernel
theorem dX7_swings_101 : decode cX7_swings 101 = .ok (.ifCond .ne 7, 3) := by decide +kernel
theorem dX7_swings_104 : decode cX7_swings 104 = .ok (.iload_n 2, 1) := by decide +kernel
theorem dX7_swings_105 : decode cX7_swings 105 = .ok (.goto 6, 3) := by decide +kernel
theorem dX7_swings_108 : decode cX7_swings 108 = .ok (.iload_n 3, 1) := by decide +kernel
theorem dX7_swings_109 : decode cX7_swings 109 = .ok (.iload_n 2, 1) := by decide +kernel
theorem dX7_swings_110 : decode cX7_swings 110 = .ok (.isub, 1) := by decide +kernel
theorem dX7_swings_111 : decode cX7_swings 111 = .ok (.ireturn, 1) := by decide +kernel
theorem dX7_swings_112 : decode cX7_swings 112 = .ok (.iinc 3 1, 3) := by decide +kernel
theorem dX7_swings_115 : decode cX7_swings 115 = .ok (.goto (-31), 3) := by decide +kernel
theorem dX7_swings_118 : decode cX7_swings 118 = .ok (.iinc 2 1, 3) := by decide +kernel
theorem dX7_swings_121 : decode cX7_swings 121 = .ok (.goto (-48), 3) := by decide +kernel
theorem dX7_swings_124 : decode cX7_swings 124 = .ok (.bipush (-9), 2) := by decide +kernel
theorem dX7_swings_126 : decode cX7_swings 126 = .ok (.ireturn, 1) := by decide +kernel
set_option maxRecDepth 20000 in
theorem ggX7_ill_X7_isHouse : GoodIn wsX7_ill wsX7_isHouse := goodIn_r _ [7, 8, 9, 10, 6, 11, 12, 13, 14, 15, 16, 17, 18, 19, 20, 21, 22, 23, 24, 25, 26, 27, 28, 29, 30, 31, 32, 33, 34, 35] (by decide +kernel) (by decide +kernel)
set_option maxRecDepth 20000 in
theorem gX7_ill_X7_isHouse : GoodIn wsX7_ill (wsV RX7 128 RX7 yX7_isHouse wsX7_isHouse) := goodIn_app (goodIn_of _ (by decide +kernel)) ggX7_ill_X7_isHouse
set_option maxRecDepth 20000 in
theorem ggX7_ill_X7_in : GoodIn wsX7_ill wsX7_in := goodIn_r _ [11] (by decide +kernel) (by decide +kernel)
set_option maxRecDepth 20000 in
theorem gX7_ill_X7_in : GoodIn wsX7_ill (va_wsS RX7 58 yX7_in wsX7_in) := goodIn_app (goodIn_of _ (by decide +kernel)) ggX7_ill_X7_in
theorem dX7_ill_0 : decode cX7_ill 0 = .ok (.aload_n 0, 1) := by decide +kernel
theorem dX7_ill_1 : decode cX7_ill 1 = .ok (.iconst 0, 1) := by decide +kernel
theorem dX7_ill_2 : decode cX7_ill 2 = .ok (.putfield 54, 3) := by decide +kernel
theorem dX7_ill_5 : decode cX7_ill 5 = .ok (.aload_n 0, 1) := by decide +kernel
theorem dX7_ill_6 : decode cX7_ill 6 = .ok (.iload_n 1, 1) := by decide +kernel
theorem dX7_ill_7 : decode cX7_ill 7 = .ok (.invokevirtual 128, 3) := by decide +kernel
theorem dX7_ill_10 : decode cX7_ill 10 = .ok (.ifCond .eq 12, 3) := by decide +kernel
theorem dX7_ill_13 : decode cX7_ill 13 = .ok (.iload_n 2, 1) := by decide +kernel
theorem dX7_ill_14 : decode cX7_ill 14 = .ok (.iconst 0, 1) := by decide +kernel
theorem dX7_ill_15 : decode cX7_ill 15 = .ok (.iconst 1, 1) := by decide +kernel
theorem dX7_ill_16 : decode cX7_ill 16 = .ok (.invokestatic 58, 3) := by decide +kernel
theorem dX7_ill_19 : decode cX7_ill 19 = .ok (.ifCond .ne 5, 3) := by decide +kernel
theorem dX7_ill_22 : decode cX7_ill 22 = .ok (.iconst (-1), 1) := by decide +kernel
theorem dX7_ill_23 : decode cX7_ill 23 = .ok (.ireturn, 1) := by decide +kernel
theorem dX7_ill_24 : decode cX7_ill 24 = .ok (.aload_n 0, 1) := by decide +kernel
theorem dX7_ill_25 : decode cX7_ill 25 = .ok (.getfield 25, 3) := by decide +kernel
theorem dX7_ill_28 : decode cX7_ill 28 = .ok (.bipush 58, 2) := by decide +kernel
theorem dX7_ill_30 : decode cX7_ill 30 = .ok (.iaload, 1) := by decide +kernel
theorem dX7_ill_31 : decode cX7_ill 31 = .ok (.ifCond .ne 6, 3) := by decide +kernel
theorem dX7_ill_34 : decode cX7_ill 34 = .ok (.bipush (-2), 2) := by decide +kernel
theorem dX7_ill_36 : decode cX7_ill 36 = .ok (.ireturn, 1) := by decide +kernel
theorem dX7_ill_37 : decode cX7_ill 37 = .ok (.iload_n 2, 1) := by decide +kernel
theorem dX7_ill_38 : decode cX7_ill 38 = .ok (.iconst 1, 1) := by decide +kernel
theorem dX7_ill_39 : decode cX7_ill 39 = .ok (.if_icmp .ne 7, 3) := by decide +kernel
theorem dX7_ill_42 : decode cX7_ill 42 = .ok (.iconst 1, 1) := by decide +kernel
theorem dX7_ill_43 : decode cX7_ill 43 = .ok (.goto 4, 3) := by decide +kernel
theorem dX7_ill_46 : decode cX7_ill 46 = .ok (.iconst 2, 1) := by decide +kernel
theorem dX7_ill_47 : decode cX7_ill 47 = .ok (.istore_n 3, 1) := by decide +kernel
theorem dX7_ill_48 : decode cX7_ill 48 = .ok (.aload_n 0, 1) := by decide +kernel
theorem dX7_ill_49 : decode cX7_ill 49 = .ok (.getfield 25, 3) := by decide +kernel
theorem dX7_ill_52 : decode cX7_ill 52 = .ok (.bipush 59, 2) := by decide +kernel
theorem dX7_ill_54 : decode cX7_ill 54 = .ok (.iload_n 1, 1) := by decide +kernel
theorem dX7_ill_55 : decode cX7_ill 55 = .ok (.iadd, 1) := by decide +kernel
theorem dX7_ill_56 : decode cX7_ill 56 = .ok (.iaload, 1) := by decide +kernel
theorem dX7_ill_57 : decode cX7_ill 57 = .ok (.iload_n 3, 1) := by decide +kernel
theorem dX7_ill_58 : decode cX7_ill 58 = .ok (.if_icmp .ne 7, 3) := by decide +kernel
theorem dX7_ill_61 : decode cX7_ill 61 = .ok (.iconst 0, 1) := by decide +kernel
theorem dX7_ill_62 : decode cX7_ill 62 = .ok (.goto 4, 3) := by decide +kernel
theorem dX7_ill_65 : decode cX7_ill 65 = .ok (.iconst 1, 1) := by decide +kernel
theorem dX7_ill_66 : decode cX7_ill 66 = .ok (.istore 4, 2) := by decide +kernel
theorem dX7_ill_68 : decode cX7_ill 68 = .ok (.aload_n 0, 1) := by decide +kernel
theorem dX7_ill_69 : decode cX7_ill 69 = .ok (.getfield 25, 3) := by decide +kernel
theorem dX7_ill_72 : decode cX7_ill 72 = .ok (.bipush 59, 2) := by decide +kernel
theorem dX7_ill_74 : decode cX7_ill 74 = .ok (.iload_n 1, 1) := by decide +kernel
theorem dX7_ill_75 : decode cX7_ill 75 = .ok (.iadd, 1) := by decide +kernel
theorem dX7_ill_76 : decode cX7_ill 76 = .ok (.iload_n 3, 1) := by decide +kernel
theorem dX7_ill_77 : decode cX7_ill 77 = .ok (.iastore, 1) := by decide +kernel
theorem dX7_ill_78 : decode cX7_ill 78 = .ok (.iload 4, 2) := by decide +kernel
theorem dX7_ill_80 : decode cX7_ill 80 = .ok (.ireturn, 1) := by decide +kernel
theorem dX7_suspects_0 : decode cX7_suspects 0 = .ok (.aload_n 0, 1) := by decide +kernel
theorem dX7_suspects_1 : decode cX7_suspects 1 = .ok (.iconst 0, 1) := by decide +kernel
theorem dX7_suspects_2 : decode cX7_suspects 2 = .ok (.putfield 54, 3) := by decide +kernel
theorem dX7_suspects_5 : decode cX7_suspects 5 = .ok (.iconst 0, 1) := by decide +kernel
theorem dX7_suspects_6 : decode cX7_suspects 6 = .ok (.istore_n 1, 1) := by decide +kernel
theorem dX7_suspects_7 : decode cX7_suspects 7 = .ok (.iconst 0, 1) := by decide +kernel
theorem dX7_suspects_8 : decode cX7_suspects 8 = .ok (.istore_n 2, 1) := by decide +kernel
theorem dX7_suspects_9 : decode cX7_suspects 9 = .ok (.iload_n 2, 1) := by decide +kernel
theorem dX7_suspects_10 : decode cX7_suspects 10 = .ok (.iconst 4, 1) := by decide +kernel
theorem dX7_suspects_11 : decode cX7_suspects 11 = .ok (.if_icmp .ge 114, 3) := by decide +kernel
theorem dX7_suspects_14 : decode cX7_suspects 14 = .ok (.iconst 1, 1) := by decide +kernel
theorem dX7_suspects_15 : decode cX7_suspects 15 = .ok (.istore_n 3, 1) := by decide +kernel
theorem dX7_suspects_16 : decode cX7_suspects 16 = .ok (.iconst 0, 1) := by decide +kernel
theorem dX7_suspects_17 : decode cX7_suspects 17 = .ok (.istore 4, 2) := by decide +kernel
theorem dX7_suspects_19 : decode cX7_suspects 19 = .ok (.iload 4, 2) := by decide +kernel
theorem dX7_suspects_21 : decode cX7_suspects 21 = .ok (.aload_n 0, 1) := by decide +kernel
theorem dX7_suspects_22 : decode cX7_suspects 22 = .ok (.getfield 122, 3) := by decide +kernel
theorem dX7_suspects_25 : decode cX7_suspects 25 = .ok (.if_icmp .ge 80, 3) := by decide +kernel
theorem dX7_suspects_28 : decode cX7_suspects 28 = .ok (.aload_n 0, 1) := by decide +kernel
theorem dX7_suspects_29 : decode cX7_suspects 29 = .ok (.getfield 25, 3) := by decide +kernel
theorem dX7_suspects_32 : decode cX7_suspects 32 = .ok (.bipush 30, 2) := by decide +kernel
theorem dX7_suspects_34 : decode cX7_suspects 34 = .ok (.iconst 4, 1) := by decide +kernel
theorem dX7_suspects_35 : decode cX7_suspects 35 = .ok (.iload 4, 2) := by decide +kernel
theorem dX7_suspects_37 : decode cX7_suspects 37 = .ok (.imul, 1) := by decide +kernel
theorem dX7_suspects_38 : decode cX7_suspects 38 = .ok (.iadd, 1) := by decide +kernel
theorem dX7_suspects_39 : decode cX7_suspects 39 = .ok (.iload_n 2, 1) := by decide +kernel
theorem dX7_suspects_40 : decode cX7_suspects 40 = .ok (.iadd, 1) := by decide +kernel
theorem dX7_suspects_41 : decode cX7_suspects 41 = .ok (.iaload, 1) := by decide +kernel
theorem dX7_suspects_42 : decode cX7_suspects 42 = .ok (.ifCond .le 7, 3) := by decide +kernel
theorem dX7_suspects_45 : decode cX7_suspects 45 = .ok (.iconst 1, 1) := by decide +kernel
theorem dX7_suspects_46 : decode cX7_suspects 46 = .ok (.goto 4, 3) := by decide +kernel
theorem dX7_suspects_49 : decode cX7_suspects 49 = .ok (.iconst 0, 1) := by decide +kernel
theorem dX7_suspects_50 : decode cX7_suspects 50 = .ok (.istore 5, 2) := by decide +kernel
theorem dX7_suspects_52 : decode cX7_suspects 52 = .ok (.iload_n 3, 1) := by decide +kernel
theorem dX7_suspects_53 : decode cX7_suspects 53 = .ok (.ifCond .eq 44, 3) := by decide +kernel
theorem dX7_suspects_56 : decode cX7_suspects 56 = .ok (.aload_n 0, 1) := by decide +kernel
theorem dX7_suspects_57 : decode cX7_suspects 57 = .ok (.getfield 25, 3) := by decide +kernel
theorem dX7_suspects_60 : decode cX7_suspects 60 = .ok (.bipush 59, 2) := by decide +kernel
theorem dX7_suspects_62 : decode cX7_suspects 62 = .ok (.iload 4, 2) := by decide +kernel
theorem dX7_suspects_64 : decode cX7_suspects 64 = .ok (.iadd, 1) := by decide +kernel
theorem dX7_suspects_65 : decode cX7_suspects 65 = .ok (.iaload, 1) := by decide +kernel
theorem dX7_suspects_66 : decode cX7_suspects 66 = .ok (.ifCond .eq 27, 3) := by decide +kernel
theorem dX7_suspects_69 : decode cX7_suspects 69 = .ok (.iload 5, 2) := by decide +kernel
theorem dX7_suspects_71 : decode cX7_suspects 71 = .ok (.aload_n 0, 1) := by decide +kernel
theorem dX7_suspects_72 : decode cX7_suspects 72 = .ok (.getfield 25, 3) := by decide +kernel
theorem dX7_suspects_75 : decode cX7_suspects 75 = .ok (.bipush 59, 2) := by decide +kernel
theorem dX7_suspects_77 : decode cX7_suspects 77 = .ok (.iload 4, 2) := by decide +kernel
theorem dX7_suspects_79 : decode cX7_suspects 79 = .ok (.iadd, 1) := by decide +kernel
theorem dX7_suspects_80 : decode cX7_suspects 80 = .ok (.iaload, 1) := by decide +kernel
theorem dX7_suspects_81 : decode cX7_suspects 81 = .ok (.iconst 1, 1) := by decide +kernel
theorem dX7_suspects_82 : decode cX7_suspects 82 = .ok (.if_icmp .ne 7, 3) := by decide +kernel
theorem dX7_suspects_85 : decode cX7_suspects 85 = .ok (.iconst 1, 1) := by decide +kernel
theorem dX7_suspects_86 : decode cX7_suspects 86 = .ok (.goto 4, 3) := by decide +kernel
theorem dX7_suspects_89 : decode cX7_suspects 89 = .ok (.iconst 0, 1) := by decide +kernel
theorem dX7_suspects_90 : decode cX7_suspects 90 = .ok (.if_icmp .ne 7, 3) := by decide +kernel
theorem dX7_suspects_93 : decode cX7_suspects 93 = .ok (.iconst 1, 1) := by decide +kernel
theorem dX7_suspects_94 : decode cX7_suspects 94 = .ok (.goto 4, 3) := by decide +kernel
theorem dX7_suspects_97 : decode cX7_suspects 97 = .ok (.iconst 0, 1) := by decide +kernel
theorem dX7_suspects_98 : decode cX7_suspects 98 = .ok (.istore_n 3, 1) := by decide +kernel
theorem dX7_suspects_99 : decode cX7_suspects 99 = .ok (.iinc 4 1, 3) := by decide +kernel
theorem dX7_suspects_102 : decode cX7_suspects 102 = .ok (.goto (-83), 3) := by decide +kernel
theorem dX7_suspects_105 : decode cX7_suspects 105 = .ok (.iload_n 1, 1) := by decide +kernel
theorem dX7_suspects_106 : decode cX7_suspects 106 = .ok (.iload_n 3, 1) := by decide +kernel
theorem dX7_suspects_107 : decode cX7_suspects 107 = .ok (.ifCond .eq 9, 3) := by decide +kernel
theorem dX7_suspects_110 : decode cX7_suspects 110 = .ok (.iconst 1, 1) := by decide +kernel
theorem dX7_suspects_111 : decode cX7_suspects 111 = .ok (.iload_n 2, 1) := by decide +kernel
theorem dX7_suspects_112 : decode cX7_suspects 112 = .ok (.ishl, 1) := by decide +kernel
theorem dX7_suspects_113 : decode cX7_suspects 113 = .ok (.goto 4, 3) := by decide +kernel
theorem dX7_suspects_116 : decode cX7_suspects 116 = .ok (.iconst 0, 1) := by decide +kernel
theorem dX7_suspects_117 : decode cX7_suspects 117 = .ok (.ior, 1) := by decide +kernel
theorem dX7_suspects_118 : decode cX7_suspects 118 = .ok (.istore_n 1, 1) := by decide +kernel
theorem dX7_suspects_119 : decode cX7_suspects 119 = .ok (.iinc 2 1, 3) := by decide +kernel
theorem dX7_suspects_122 : decode cX7_suspects 122 = .ok (.goto (-113), 3) := by decide +kernel
theorem dX7_suspects_125 : decode cX7_suspects 125 = .ok (.iload_n 1, 1) := by decide +kernel
theorem dX7_suspects_126 : decode cX7_suspects 126 = .ok (.ireturn, 1) := by decide +kernel
set_option maxRecDepth 20000 in
theorem ggX7_sortsBy_X7_greatest : GoodIn wsX7_sortsBy wsX7_greatest := goodIn_r _ [6, 7, 8, 9, 10, 11, 12, 13, 14, 15, 16, 17, 18, 19, 20, 21, 22, 23, 24, 25, 26, 27, 28, 29, 30, 31, 32] (by decide +kernel) (by decide +kernel)
set_option maxRecDepth 20000 in
theorem gX7_sortsBy_X7_greatest : GoodIn wsX7_sortsBy (wsV RX7 188 RX7 yX7_greatest wsX7_greatest) := goodIn_app (goodIn_of _ (by decide +kernel)) ggX7_sortsBy_X7_greatest
theorem dX7_sortsBy_0 : decode cX7_sortsBy 0 = .ok (.iconst 0, 1) := by decide +kernel
theorem dX7_sortsBy_1 : decode cX7_sortsBy 1 = .ok (.istore_n 2, 1) := by decide +kernel
theorem dX7_sortsBy_2 : decode cX7_sortsBy 2 = .ok (.iconst 0, 1) := by decide +kernel
theorem dX7_sortsBy_3 : decode cX7_sortsBy 3 = .ok (.istore_n 3, 1) := by decide +kernel
theorem dX7_sortsBy_4 : decode cX7_sortsBy 4 = .ok (.iload_n 3, 1) := by decide +kernel
theorem dX7_sortsBy_5 : decode cX7_sortsBy 5 = .ok (.aload_n 0, 1) := by decide +kernel
theorem dX7_sortsBy_6 : decode cX7_sortsBy 6 = .ok (.getfield 122, 3) := by decide +kernel
theorem dX7_sortsBy_9 : decode cX7_sortsBy 9 = .ok (.if_icmp .ge 35, 3) := by decide +kernel
theorem dX7_sortsBy_12 : decode cX7_sortsBy 12 = .ok (.iload_n 2, 1) := by decide +kernel
theorem dX7_sortsBy_13 : decode cX7_sortsBy 13 = .ok (.iload_n 1, 1) := by decide +kernel
theorem dX7_sortsBy_14 : decode cX7_sortsBy 14 = .ok (.iload_n 3, 1) := by decide +kernel
theorem dX7_sortsBy_15 : decode cX7_sortsBy 15 = .ok (.ishr, 1) := by decide +kernel
theorem dX7_sortsBy_16 : decode cX7_sortsBy 16 = .ok (.iconst 1, 1) := by decide +kernel
theorem dX7_sortsBy_17 : decode cX7_sortsBy 17 = .ok (.iand, 1) := by decide +kernel
theorem dX7_sortsBy_18 : decode cX7_sortsBy 18 = .ok (.iconst 1, 1) := by decide +kernel
theorem dX7_sortsBy_19 : decode cX7_sortsBy 19 = .ok (.if_icmp .ne 16, 3) := by decide +kernel
theorem dX7_sortsBy_22 : decode cX7_sortsBy 22 = .ok (.iconst 1, 1) := by decide +kernel
theorem dX7_sortsBy_23 : decode cX7_sortsBy 23 = .ok (.aload_n 0, 1) := by decide +kernel
theorem dX7_sortsBy_24 : decode cX7_sortsBy 24 = .ok (.iconst 4, 1) := by decide +kernel
theorem dX7_sortsBy_25 : decode cX7_sortsBy 25 = .ok (.iload_n 3, 1) := by decide +kernel
theorem dX7_sortsBy_26 : decode cX7_sortsBy 26 = .ok (.imul, 1) := by decide +kernel
theorem dX7_sortsBy_27 : decode cX7_sortsBy 27 = .ok (.iconst 1, 1) := by decide +kernel
theorem dX7_sortsBy_28 : decode cX7_sortsBy 28 = .ok (.invokevirtual 188, 3) := by decide +kernel
theorem dX7_sortsBy_31 : decode cX7_sortsBy 31 = .ok (.ishl, 1) := by decide +kernel
theorem dX7_sortsBy_32 : decode cX7_sortsBy 32 = .ok (.goto 4, 3) := by decide +kernel
theorem dX7_sortsBy_35 : decode cX7_sortsBy 35 = .ok (.iconst 0, 1) := by decide +kernel
theorem dX7_sortsBy_36 : decode cX7_sortsBy 36 = .ok (.ior, 1) := by decide +kernel
theorem dX7_sortsBy_37 : decode cX7_sortsBy 37 = .ok (.istore_n 2, 1) := by decide +kernel
theorem dX7_sortsBy_38 : decode cX7_sortsBy 38 = .ok (.iinc 3 1, 3) := by decide +kernel
theorem dX7_sortsBy_41 : decode cX7_sortsBy 41 = .ok (.goto (-37), 3) := by decide +kernel
theorem dX7_sortsBy_44 : decode cX7_sortsBy 44 = .ok (.iconst 0, 1) := by decide +kernel
theorem dX7_sortsBy_45 : decode cX7_sortsBy 45 = .ok (.istore_n 3, 1) := by decide +kernel
theorem dX7_sortsBy_46 : decode cX7_sortsBy 46 = .ok (.iconst 0, 1) := by decide +kernel
theorem dX7_sortsBy_47 : decode cX7_sortsBy 47 = .ok (.istore 4, 2) := by decide +kernel
theorem dX7_sortsBy_49 : decode cX7_sortsBy 49 = .ok (.iload 4, 2) := by decide +kernel
theorem dX7_sortsBy_51 : decode cX7_sortsBy 51 = .ok (.iconst 4, 1) := by decide +kernel
theorem dX7_sortsBy_52 : decode cX7_sortsBy 52 = .ok (.if_icmp .ge 18, 3) := by decide +kernel
theorem dX7_sortsBy_55 : decode cX7_sortsBy 55 = .ok (.iload_n 3, 1) := by decide +kernel
theorem dX7_sortsBy_56 : decode cX7_sortsBy 56 = .ok (.iload_n 2, 1) := by decide +kernel
theorem dX7_sortsBy_57 : decode cX7_sortsBy 57 = .ok (.iload 4, 2) := by decide +kernel
theorem dX7_sortsBy_59 : decode cX7_sortsBy 59 = .ok (.ishr, 1) := by decide +kernel
theorem dX7_sortsBy_60 : decode cX7_sortsBy 60 = .ok (.iconst 1, 1) := by decide +kernel
theorem dX7_sortsBy_61 : decode cX7_sortsBy 61 = .ok (.iand, 1) := by decide +kernel
theorem dX7_sortsBy_62 : decode cX7_sortsBy 62 = .ok (.iadd, 1) := by decide +kernel
theorem dX7_sortsBy_63 : decode cX7_sortsBy 63 = .ok (.istore_n 3, 1) := by decide +kernel
theorem dX7_sortsBy_64 : decode cX7_sortsBy 64 = .ok (.iinc 4 1, 3) := by decide +kernel
theorem dX7_sortsBy_67 : decode cX7_sortsBy 67 = .ok (.goto (-18), 3) := by decide +kernel
theorem dX7_sortsBy_70 : decode cX7_sortsBy 70 = .ok (.iload_n 3, 1) := by decide +kernel
theorem dX7_sortsBy_71 : decode cX7_sortsBy 71 = .ok (.ireturn, 1) := by decide +kernel
set_option maxRecDepth 20000 in
theorem ggX7_areAtRest_X7_greatest : GoodIn wsX7_areAtRest wsX7_greatest := goodIn_r _ [6, 7, 8, 13, 14, 15, 16, 17, 18, 19, 20, 21, 22, 23, 24, 25, 26, 27, 28, 29, 30, 31, 32, 33, 34, 35, 36] (by decide +kernel) (by decide +kernel)
set_option maxRecDepth 20000 in
theorem gX7_areAtRest_X7_greatest : GoodIn wsX7_areAtRest (wsV RX7 188 RX7 yX7_greatest wsX7_greatest) := goodIn_app (goodIn_of _ (by decide +kernel)) ggX7_areAtRest_X7_greatest
set_option maxRecDepth 20000 in
theorem ggX7_areAtRest_X7_sortsBy : GoodIn wsX7_areAtRest wsX7_sortsBy := goodIn_r _ [12, 1, 2, 3, 4, 5, 6, 7, 8, 13, 14, 15, 16, 17, 18, 19, 20, 21, 22, 23, 24, 25, 26, 27, 28, 29, 30, 31, 32, 33, 34, 35, 36] (by decide +kernel) (by decide +kernel)
set_option maxRecDepth 20000 in
theorem gX7_areAtRest_X7_sortsBy : GoodIn wsX7_areAtRest (wsV RX7 200 RX7 yX7_sortsBy wsX7_sortsBy) := goodIn_app (goodIn_of _ (by decide +kernel)) ggX7_areAtRest_X7_sortsBy
theorem dX7_areAtRest_0 : decode cX7_areAtRest 0 = .ok (.iconst 1, 1) := by decide +kernel
theorem dX7_areAtRest_1 : decode cX7_areAtRest 1 = .ok (.istore 4, 2) := by decide +kernel
theorem dX7_areAtRest_3 : decode cX7_areAtRest 3 = .ok (.iconst 0, 1) := by decide +kernel
theorem dX7_areAtRest_4 : decode cX7_areAtRest 4 = .ok (.istore 5, 2) := by decide +kernel
theorem dX7_areAtRest_6 : decode cX7_areAtRest 6 = .ok (.iload 5, 2) := by decide +kernel
theorem dX7_areAtRest_8 : decode cX7_areAtRest 8 = .ok (.aload_n 0, 1) := by decide +kernel
theorem dX7_areAtRest_9 : decode cX7_areAtRest 9 = .ok (.getfield 122, 3) := by decide +kernel
theorem dX7_areAtRest_12 : decode cX7_areAtRest 12 = .ok (.if_icmp .ge 138, 3) := by decide +kernel
theorem dX7_areAtRest_15 : decode cX7_areAtRest 15 = .ok (.aload_n 0, 1) := by decide +kernel
theorem dX7_areAtRest_16 : decode cX7_areAtRest 16 = .ok (.iconst 4, 1) := by decide +kernel
theorem dX7_areAtRest_17 : decode cX7_areAtRest 17 = .ok (.iload 5, 2) := by decide +kernel
theorem dX7_areAtRest_19 : decode cX7_areAtRest 19 = .ok (.imul, 1) := by decide +kernel
theorem dX7_areAtRest_20 : decode cX7_areAtRest 20 = .ok (.iconst 1, 1) := by decide +kernel
theorem dX7_areAtRest_21 : decode cX7_areAtRest 21 = .ok (.invokevirtual 188, 3) := by decide +kernel
theorem dX7_areAtRest_24 : decode cX7_areAtRest 24 = .ok (.bipush (-9), 2) := by decide +kernel
theorem dX7_areAtRest_26 : decode cX7_areAtRest 26 = .ok (.if_icmp .eq 7, 3) := by decide +kernel
theorem dX7_areAtRest_29 : decode cX7_areAtRest 29 = .ok (.iconst 1, 1) := by decide +kernel
theorem dX7_areAtRest_30 : decode cX7_areAtRest 30 = .ok (.goto 4, 3) := by decide +kernel
theorem dX7_areAtRest_33 : decode cX7_areAtRest 33 = .ok (.iconst 0, 1) := by decide +kernel
theorem dX7_areAtRest_34 : decode cX7_areAtRest 34 = .ok (.istore 6, 2) := by decide +kernel
theorem dX7_areAtRest_36 : decode cX7_areAtRest 36 = .ok (.iload_n 1, 1) := by decide +kernel
theorem dX7_areAtRest_37 : decode cX7_areAtRest 37 = .ok (.iload 5, 2) := by decide +kernel
theorem dX7_areAtRest_39 : decode cX7_areAtRest 39 = .ok (.ishr, 1) := by decide +kernel
theorem dX7_areAtRest_40 : decode cX7_areAtRest 40 = .ok (.iconst 1, 1) := by decide +kernel
theorem dX7_areAtRest_41 : decode cX7_areAtRest 41 = .ok (.iand, 1) := by decide +kernel
theorem dX7_areAtRest_42 : decode cX7_areAtRest 42 = .ok (.iconst 1, 1) := by decide +kernel
theorem dX7_areAtRest_43 : decode cX7_areAtRest 43 = .ok (.if_icmp .ne 7, 3) := by decide +kernel
theorem dX7_areAtRest_46 : decode cX7_areAtRest 46 = .ok (.iconst 1, 1) := by decide +kernel
theorem dX7_areAtRest_47 : decode cX7_areAtRest 47 = .ok (.goto 4, 3) := by decide +kernel
theorem dX7_areAtRest_50 : decode cX7_areAtRest 50 = .ok (.iconst 0, 1) := by decide +kernel
theorem dX7_areAtRest_51 : decode cX7_areAtRest 51 = .ok (.istore 7, 2) := by decide +kernel
theorem dX7_areAtRest_53 : decode cX7_areAtRest 53 = .ok (.iload 6, 2) := by decide +kernel
theorem dX7_areAtRest_55 : decode cX7_areAtRest 55 = .ok (.ifCond .ne 23, 3) := by decide +kernel
theorem dX7_areAtRest_58 : decode cX7_areAtRest 58 = .ok (.iload 4, 2) := by decide +kernel
theorem dX7_areAtRest_60 : decode cX7_areAtRest 60 = .ok (.ifCond .eq 12, 3) := by decide +kernel
theorem dX7_areAtRest_63 : decode cX7_areAtRest 63 = .ok (.iload 7, 2) := by decide +kernel
theorem dX7_areAtRest_65 : decode cX7_areAtRest 65 = .ok (.ifCond .ne 7, 3) := by decide +kernel
theorem dX7_areAtRest_68 : decode cX7_areAtRest 68 = .ok (.iconst 1, 1) := by decide +kernel
theorem dX7_areAtRest_69 : decode cX7_areAtRest 69 = .ok (.goto 4, 3) := by decide +kernel
theorem dX7_areAtRest_72 : decode cX7_areAtRest 72 = .ok (.iconst 0, 1) := by decide +kernel
theorem dX7_areAtRest_73 : decode cX7_areAtRest 73 = .ok (.istore 4, 2) := by decide +kernel
theorem dX7_areAtRest_75 : decode cX7_areAtRest 75 = .ok (.goto 69, 3) := by decide +kernel
theorem dX7_areAtRest_78 : decode cX7_areAtRest 78 = .ok (.iload_n 3, 1) := by decide +kernel
theorem dX7_areAtRest_79 : decode cX7_areAtRest 79 = .ok (.aload_n 0, 1) := by decide +kernel
theorem dX7_areAtRest_80 : decode cX7_areAtRest 80 = .ok (.iload_n 1, 1) := by decide +kernel
theorem dX7_areAtRest_81 : decode cX7_areAtRest 81 = .ok (.iconst 1, 1) := by decide +kernel
theorem dX7_areAtRest_82 : decode cX7_areAtRest 82 = .ok (.iload 5, 2) := by decide +kernel
theorem dX7_areAtRest_84 : decode cX7_areAtRest 84 = .ok (.ishl, 1) := by decide +kernel
theorem dX7_areAtRest_85 : decode cX7_areAtRest 85 = .ok (.ior, 1) := by decide +kernel
theorem dX7_areAtRest_86 : decode cX7_areAtRest 86 = .ok (.invokevirtual 200, 3) := by decide +kernel
theorem dX7_areAtRest_89 : decode cX7_areAtRest 89 = .ok (.imul, 1) := by decide +kernel
theorem dX7_areAtRest_90 : decode cX7_areAtRest 90 = .ok (.iload_n 2, 1) := by decide +kernel
theorem dX7_areAtRest_91 : decode cX7_areAtRest 91 = .ok (.isub, 1) := by decide +kernel
theorem dX7_areAtRest_92 : decode cX7_areAtRest 92 = .ok (.istore 8, 2) := by decide +kernel
theorem dX7_areAtRest_94 : decode cX7_areAtRest 94 = .ok (.iload_n 3, 1) := by decide +kernel
theorem dX7_areAtRest_95 : decode cX7_areAtRest 95 = .ok (.aload_n 0, 1) := by decide +kernel
theorem dX7_areAtRest_96 : decode cX7_areAtRest 96 = .ok (.iload_n 1, 1) := by decide +kernel
theorem dX7_areAtRest_97 : decode cX7_areAtRest 97 = .ok (.iconst 1, 1) := by decide +kernel
theorem dX7_areAtRest_98 : decode cX7_areAtRest 98 = .ok (.iload 5, 2) := by decide +kernel
theorem dX7_areAtRest_100 : decode cX7_areAtRest 100 = .ok (.ishl, 1) := by decide +kernel
theorem dX7_areAtRest_101 : decode cX7_areAtRest 101 = .ok (.iconst (-1), 1) := by decide +kernel
theorem dX7_areAtRest_102 : decode cX7_areAtRest 102 = .ok (.ixor, 1) := by decide +kernel
theorem dX7_areAtRest_103 : decode cX7_areAtRest 103 = .ok (.iand, 1) := by decide +kernel
theorem dX7_areAtRest_104 : decode cX7_areAtRest 104 = .ok (.invokevirtual 200, 3) := by decide +kernel
theorem dX7_areAtRest_107 : decode cX7_areAtRest 107 = .ok (.imul, 1) := by decide +kernel
theorem dX7_areAtRest_108 : decode cX7_areAtRest 108 = .ok (.istore 9, 2) := by decide +kernel
theorem dX7_areAtRest_110 : decode cX7_areAtRest 110 = .ok (.iload 4, 2) := by decide +kernel
theorem dX7_areAtRest_112 : decode cX7_areAtRest 112 = .ok (.ifCond .eq 29, 3) := by decide +kernel
theorem dX7_areAtRest_115 : decode cX7_areAtRest 115 = .ok (.iload 7, 2) := by decide +kernel
theorem dX7_areAtRest_117 : decode cX7_areAtRest 117 = .ok (.ifCond .eq 13, 3) := by decide +kernel
theorem dX7_areAtRest_120 : decode cX7_areAtRest 120 = .ok (.iload 8, 2) := by decide +kernel
theorem dX7_areAtRest_122 : decode cX7_areAtRest 122 = .ok (.iload 9, 2) := by decide +kernel
theorem dX7_areAtRest_124 : decode cX7_areAtRest 124 = .ok (.if_icmp .lt 17, 3) := by decide +kernel
theorem dX7_areAtRest_127 : decode cX7_areAtRest 127 = .ok (.goto 10, 3) := by decide +kernel
theorem dX7_areAtRest_130 : decode cX7_areAtRest 130 = .ok (.iload 9, 2) := by decide +kernel
theorem dX7_areAtRest_132 : decode cX7_areAtRest 132 = .ok (.iload 8, 2) := by decide +kernel
theorem dX7_areAtRest_134 : decode cX7_areAtRest 134 = .ok (.if_icmp .lt 7, 3) := by decide +kernel
theorem dX7_areAtRest_137 : decode cX7_areAtRest 137 = .ok (.iconst 1, 1) := by decide +kernel
theorem dX7_areAtRest_138 : decode cX7_areAtRest 138 = .ok (.goto 4, 3) := by decide +kernel
theorem dX7_areAtRest_141 : decode cX7_areAtRest 141 = .ok (.iconst 0, 1) := by decide +kernel
theorem dX7_areAtRest_142 : decode cX7_areAtRest 142 = .ok (.istore 4, 2) := by decide +kernel
theorem dX7_areAtRest_144 : decode cX7_areAtRest 144 = .ok (.iinc 5 1, 3) := by decide +kernel
theorem dX7_areAtRest_147 : decode cX7_areAtRest 147 = .ok (.goto (-141), 3) := by decide +kernel
theorem dX7_areAtRest_150 : decode cX7_areAtRest 150 = .ok (.iload 4, 2) := by decide +kernel
theorem dX7_areAtRest_152 : decode cX7_areAtRest 152 = .ok (.ireturn, 1) := by decide +kernel
set_option maxRecDepth 20000 in
theorem ggX7_canAll_X7_greatest : GoodIn wsX7_canAll wsX7_greatest := goodIn_r _ [6, 7, 8, 9, 10, 11, 12, 13, 14, 15, 16, 17, 18, 19, 20, 21, 22, 23, 24, 25, 26, 27, 28, 29, 30, 31, 32] (by decide +kernel) (by decide +kernel)
set_option maxRecDepth 20000 in
theorem gX7_canAll_X7_greatest : GoodIn wsX7_canAll (wsV RX7 188 RX7 yX7_greatest wsX7_greatest) := goodIn_app (goodIn_of _ (by decide +kernel)) ggX7_canAll_X7_greatest
theorem dX7_canAll_0 : decode cX7_canAll 0 = .ok (.iconst 1, 1) := by decide +kernel
theorem dX7_canAll_1 : decode cX7_canAll 1 = .ok (.istore_n 2, 1) := by decide +kernel
theorem dX7_canAll_2 : decode cX7_canAll 2 = .ok (.iconst 0, 1) := by decide +kernel
theorem dX7_canAll_3 : decode cX7_canAll 3 = .ok (.istore_n 3, 1) := by decide +kernel
theorem dX7_canAll_4 : decode cX7_canAll 4 = .ok (.iload_n 3, 1) := by decide +kernel
theorem dX7_canAll_5 : decode cX7_canAll 5 = .ok (.aload_n 0, 1) := by decide +kernel
theorem dX7_canAll_6 : decode cX7_canAll 6 = .ok (.getfield 122, 3) := by decide +kernel
theorem dX7_canAll_9 : decode cX7_canAll 9 = .ok (.if_icmp .ge 40, 3) := by decide +kernel
theorem dX7_canAll_12 : decode cX7_canAll 12 = .ok (.iload_n 2, 1) := by decide +kernel
theorem dX7_canAll_13 : decode cX7_canAll 13 = .ok (.ifCond .eq 28, 3) := by decide +kernel
theorem dX7_canAll_16 : decode cX7_canAll 16 = .ok (.iload_n 1, 1) := by decide +kernel
theorem dX7_canAll_17 : decode cX7_canAll 17 = .ok (.iload_n 3, 1) := by decide +kernel
theorem dX7_canAll_18 : decode cX7_canAll 18 = .ok (.ishr, 1) := by decide +kernel
theorem dX7_canAll_19 : decode cX7_canAll 19 = .ok (.iconst 1, 1) := by decide +kernel
theorem dX7_canAll_20 : decode cX7_canAll 20 = .ok (.iand, 1) := by decide +kernel
theorem dX7_canAll_21 : decode cX7_canAll 21 = .ok (.ifCond .eq 16, 3) := by decide +kernel
theorem dX7_canAll_24 : decode cX7_canAll 24 = .ok (.aload_n 0, 1) := by decide +kernel
theorem dX7_canAll_25 : decode cX7_canAll 25 = .ok (.iconst 4, 1) := by decide +kernel
theorem dX7_canAll_26 : decode cX7_canAll 26 = .ok (.iload_n 3, 1) := by decide +kernel
theorem dX7_canAll_27 : decode cX7_canAll 27 = .ok (.imul, 1) := by decide +kernel
theorem dX7_canAll_28 : decode cX7_canAll 28 = .ok (.iconst 1, 1) := by decide +kernel
theorem dX7_canAll_29 : decode cX7_canAll 29 = .ok (.invokevirtual 188, 3) := by decide +kernel
theorem dX7_canAll_32 : decode cX7_canAll 32 = .ok (.bipush (-9), 2) := by decide +kernel
theorem dX7_canAll_34 : decode cX7_canAll 34 = .ok (.if_icmp .eq 7, 3) := by decide +kernel
theorem dX7_canAll_37 : decode cX7_canAll 37 = .ok (.iconst 1, 1) := by decide +kernel
theorem dX7_canAll_38 : decode cX7_canAll 38 = .ok (.goto 4, 3) := by decide +kernel
theorem dX7_canAll_41 : decode cX7_canAll 41 = .ok (.iconst 0, 1) := by decide +kernel
theorem dX7_canAll_42 : decode cX7_canAll 42 = .ok (.istore_n 2, 1) := by decide +kernel
theorem dX7_canAll_43 : decode cX7_canAll 43 = .ok (.iinc 3 1, 3) := by decide +kernel
theorem dX7_canAll_46 : decode cX7_canAll 46 = .ok (.goto (-42), 3) := by decide +kernel
theorem dX7_canAll_49 : decode cX7_canAll 49 = .ok (.iload_n 2, 1) := by decide +kernel
theorem dX7_canAll_50 : decode cX7_canAll 50 = .ok (.ireturn, 1) := by decide +kernel
set_option maxRecDepth 20000 in
theorem ggX7_rests_X7_in : GoodIn wsX7_rests wsX7_in := goodIn_r _ [6] (by decide +kernel) (by decide +kernel)
set_option maxRecDepth 20000 in
theorem gX7_rests_X7_in : GoodIn wsX7_rests (va_wsS RX7 58 yX7_in wsX7_in) := goodIn_app (goodIn_of _ (by decide +kernel)) ggX7_rests_X7_in
set_option maxRecDepth 20000 in
theorem ggX7_rests_X7_canAll : GoodIn wsX7_rests wsX7_canAll := goodIn_r _ [10, 2, 11, 12, 13, 5, 14, 15, 16, 25, 26, 27, 28, 29, 30, 31, 32, 33, 34, 35, 36, 37, 38, 39, 40, 41, 42, 43, 44, 45, 46, 47, 48] (by decide +kernel) (by decide +kernel)
set_option maxRecDepth 20000 in
theorem gX7_rests_X7_canAll : GoodIn wsX7_rests (wsV RX7 203 RX7 yX7_canAll wsX7_canAll) := goodIn_app (goodIn_of _ (by decide +kernel)) ggX7_rests_X7_canAll
set_option maxRecDepth 20000 in
theorem ggX7_rests_X7_areAtRest : GoodIn wsX7_rests wsX7_areAtRest := goodIn_r _ [20, 2, 11, 12, 13, 5, 14, 15, 16, 21, 22, 23, 24, 25, 26, 27, 28, 29, 30, 31, 32, 33, 34, 35, 36, 37, 38, 39, 40, 41, 42, 43, 44, 45, 46, 47, 48] (by decide +kernel) (by decide +kernel)
set_option maxRecDepth 20000 in
theorem gX7_rests_X7_areAtRest : GoodIn wsX7_rests (wsV RX7 206 RX7 yX7_areAtRest wsX7_areAtRest) := goodIn_app (goodIn_of _ (by decide +kernel)) ggX7_rests_X7_areAtRest
theorem dX7_rests_0 : decode cX7_rests 0 = .ok (.aload_n 0, 1) := by decide +kernel
theorem dX7_rests_1 : decode cX7_rests 1 = .ok (.iconst 0, 1) := by decide +kernel
theorem dX7_rests_2 : decode cX7_rests 2 = .ok (.putfield 54, 3) := by decide +kernel
theorem dX7_rests_5 : decode cX7_rests 5 = .ok (.iload_n 1, 1) := by decide +kernel
theorem dX7_rests_6 : decode cX7_rests 6 = .ok (.iconst 1, 1) := by decide +kernel
theorem dX7_rests_7 : decode cX7_rests 7 = .ok (.bipush 99, 2) := by decide +kernel
theorem dX7_rests_9 : decode cX7_rests 9 = .ok (.invokestatic 58, 3) := by decide +kernel
theorem dX7_rests_12 : decode cX7_rests 12 = .ok (.ifCond .eq 22, 3) := by decide +kernel
theorem dX7_rests_15 : decode cX7_rests 15 = .ok (.iload_n 2, 1) := by decide +kernel
theorem dX7_rests_16 : decode cX7_rests 16 = .ok (.iconst 1, 1) := by decide +kernel
theorem dX7_rests_17 : decode cX7_rests 17 = .ok (.bipush 99, 2) := by decide +kernel
theorem dX7_rests_19 : decode cX7_rests 19 = .ok (.invokestatic 58, 3) := by decide +kernel
theorem dX7_rests_22 : decode cX7_rests 22 = .ok (.ifCond .eq 12, 3) := by decide +kernel
theorem dX7_rests_25 : decode cX7_rests 25 = .ok (.iload_n 3, 1) := by decide +kernel
theorem dX7_rests_26 : decode cX7_rests 26 = .ok (.iconst 0, 1) := by decide +kernel
theorem dX7_rests_27 : decode cX7_rests 27 = .ok (.iconst 1, 1) := by decide +kernel
theorem dX7_rests_28 : decode cX7_rests 28 = .ok (.invokestatic 58, 3) := by decide +kernel
theorem dX7_rests_31 : decode cX7_rests 31 = .ok (.ifCond .ne 5, 3) := by decide +kernel
theorem dX7_rests_34 : decode cX7_rests 34 = .ok (.iconst (-1), 1) := by decide +kernel
theorem dX7_rests_35 : decode cX7_rests 35 = .ok (.ireturn, 1) := by decide +kernel
theorem dX7_rests_36 : decode cX7_rests 36 = .ok (.iconst 0, 1) := by decide +kernel
theorem dX7_rests_37 : decode cX7_rests 37 = .ok (.istore 4, 2) := by decide +kernel
theorem dX7_rests_39 : decode cX7_rests 39 = .ok (.bipush (-9), 2) := by decide +kernel
theorem dX7_rests_41 : decode cX7_rests 41 = .ok (.istore 5, 2) := by decide +kernel
theorem dX7_rests_43 : decode cX7_rests 43 = .ok (.iconst 0, 1) := by decide +kernel
theorem dX7_rests_44 : decode cX7_rests 44 = .ok (.istore 6, 2) := by decide +kernel
theorem dX7_rests_46 : decode cX7_rests 46 = .ok (.iload 6, 2) := by decide +kernel
theorem dX7_rests_48 : decode cX7_rests 48 = .ok (.iconst 1, 1) := by decide +kernel
theorem dX7_rests_49 : decode cX7_rests 49 = .ok (.aload_n 0, 1) := by decide +kernel
theorem dX7_rests_50 : decode cX7_rests 50 = .ok (.getfield 122, 3) := by decide +kernel
theorem dX7_rests_53 : decode cX7_rests 53 = .ok (.ishl, 1) := by decide +kernel
theorem dX7_rests_54 : decode cX7_rests 54 = .ok (.if_icmp .ge 46, 3) := by decide +kernel
theorem dX7_rests_57 : decode cX7_rests 57 = .ok (.aload_n 0, 1) := by decide +kernel
theorem dX7_rests_58 : decode cX7_rests 58 = .ok (.iload 6, 2) := by decide +kernel
theorem dX7_rests_60 : decode cX7_rests 60 = .ok (.invokevirtual 203, 3) := by decide +kernel
theorem dX7_rests_63 : decode cX7_rests 63 = .ok (.ifCond .eq 31, 3) := by decide +kernel
theorem dX7_rests_66 : decode cX7_rests 66 = .ok (.aload_n 0, 1) := by decide +kernel
theorem dX7_rests_67 : decode cX7_rests 67 = .ok (.iload 6, 2) := by decide +kernel
theorem dX7_rests_69 : decode cX7_rests 69 = .ok (.iload_n 1, 1) := by decide +kernel
theorem dX7_rests_70 : decode cX7_rests 70 = .ok (.iload_n 2, 1) := by decide +kernel
theorem dX7_rests_71 : decode cX7_rests 71 = .ok (.invokevirtual 206, 3) := by decide +kernel
theorem dX7_rests_74 : decode cX7_rests 74 = .ok (.ifCond .eq 20, 3) := by decide +kernel
theorem dX7_rests_77 : decode cX7_rests 77 = .ok (.iload 4, 2) := by decide +kernel
theorem dX7_rests_79 : decode cX7_rests 79 = .ok (.ifCond .ne 8, 3) := by decide +kernel
theorem dX7_rests_82 : decode cX7_rests 82 = .ok (.iload 6, 2) := by decide +kernel
theorem dX7_rests_84 : decode cX7_rests 84 = .ok (.goto 5, 3) := by decide +kernel
theorem dX7_rests_87 : decode cX7_rests 87 = .ok (.iload 5, 2) := by decide +kernel
theorem dX7_rests_89 : decode cX7_rests 89 = .ok (.istore 5, 2) := by decide +kernel
theorem dX7_rests_91 : decode cX7_rests 91 = .ok (.iinc 4 1, 3) := by decide +kernel
theorem dX7_rests_94 : decode cX7_rests 94 = .ok (.iinc 6 1, 3) := by decide +kernel
theorem dX7_rests_97 : decode cX7_rests 97 = .ok (.goto (-51), 3) := by decide +kernel
theorem dX7_rests_100 : decode cX7_rests 100 = .ok (.iload_n 3, 1) := by decide +kernel
theorem dX7_rests_101 : decode cX7_rests 101 = .ok (.ifCond .ne 8, 3) := by decide +kernel
theorem dX7_rests_104 : decode cX7_rests 104 = .ok (.iload 4, 2) := by decide +kernel
theorem dX7_rests_106 : decode cX7_rests 106 = .ok (.goto 5, 3) := by decide +kernel
theorem dX7_rests_109 : decode cX7_rests 109 = .ok (.iload 5, 2) := by decide +kernel
theorem dX7_rests_111 : decode cX7_rests 111 = .ok (.ireturn, 1) := by decide +kernel
set_option maxRecDepth 20000 in
theorem ggX7_rate_X7_in : GoodIn wsX7_rate wsX7_in := goodIn_r _ [14] (by decide +kernel) (by decide +kernel)
set_option maxRecDepth 20000 in
theorem gX7_rate_X7_in : GoodIn wsX7_rate (va_wsS RX7 58 yX7_in wsX7_in) := goodIn_app (goodIn_of _ (by decide +kernel)) ggX7_rate_X7_in
set_option maxRecDepth 20000 in
theorem ggX7_rate_X7_isHouse : GoodIn wsX7_rate wsX7_isHouse := goodIn_r _ [18, 19, 11, 12, 13, 14, 24, 25, 26, 27, 28, 29, 30, 31, 32, 33, 34, 35, 36, 37, 38, 39, 40, 41, 42, 43, 44, 45, 46, 47] (by decide +kernel) (by decide +kernel)
set_option maxRecDepth 20000 in
theorem gX7_rate_X7_isHouse : GoodIn wsX7_rate (wsV RX7 128 RX7 yX7_isHouse wsX7_isHouse) := goodIn_app (goodIn_of _ (by decide +kernel)) ggX7_rate_X7_isHouse
set_option maxRecDepth 20000 in
theorem ggX7_rate_X7_eatenBy : GoodIn wsX7_rate wsX7_eatenBy := goodIn_r _ [23, 4, 24, 25, 26, 27, 28, 29, 30, 31, 32, 33, 34, 35, 36, 37, 38, 39, 40, 41, 42, 43, 44, 45, 46, 47] (by decide +kernel) (by decide +kernel)
set_option maxRecDepth 20000 in
theorem gX7_rate_X7_eatenBy : GoodIn wsX7_rate (wsV RX7 161 RX7 yX7_eatenBy wsX7_eatenBy) := goodIn_app (goodIn_of _ (by decide +kernel)) ggX7_rate_X7_eatenBy
theorem dX7_rate_0 : decode cX7_rate 0 = .ok (.aload_n 0, 1) := by decide +kernel
theorem dX7_rate_1 : decode cX7_rate 1 = .ok (.iconst 0, 1) := by decide +kernel
theorem dX7_rate_2 : decode cX7_rate 2 = .ok (.putfield 54, 3) := by decide +kernel
theorem dX7_rate_5 : decode cX7_rate 5 = .ok (.iload_n 1, 1) := by decide +kernel
theorem dX7_rate_6 : decode cX7_rate 6 = .ok (.iconst 0, 1) := by decide +kernel
theorem dX7_rate_7 : decode cX7_rate 7 = .ok (.iconst 5, 1) := by decide +kernel
theorem dX7_rate_8 : decode cX7_rate 8 = .ok (.invokestatic 58, 3) := by decide +kernel
theorem dX7_rate_11 : decode cX7_rate 11 = .ok (.ifCond .eq 11, 3) := by decide +kernel
theorem dX7_rate_14 : decode cX7_rate 14 = .ok (.aload_n 0, 1) := by decide +kernel
theorem dX7_rate_15 : decode cX7_rate 15 = .ok (.iload_n 2, 1) := by decide +kernel
theorem dX7_rate_16 : decode cX7_rate 16 = .ok (.invokevirtual 128, 3) := by decide +kernel
theorem dX7_rate_19 : decode cX7_rate 19 = .ok (.ifCond .ne 6, 3) := by decide +kernel
theorem dX7_rate_22 : decode cX7_rate 22 = .ok (.ldc 209, 2) := by decide +kernel
theorem dX7_rate_24 : decode cX7_rate 24 = .ok (.ireturn, 1) := by decide +kernel
theorem dX7_rate_25 : decode cX7_rate 25 = .ok (.aload_n 0, 1) := by decide +kernel
theorem dX7_rate_26 : decode cX7_rate 26 = .ok (.getfield 16, 3) := by decide +kernel
theorem dX7_rate_29 : decode cX7_rate 29 = .ok (.iload_n 2, 1) := by decide +kernel
theorem dX7_rate_30 : decode cX7_rate 30 = .ok (.iaload, 1) := by decide +kernel
theorem dX7_rate_31 : decode cX7_rate 31 = .ok (.istore_n 3, 1) := by decide +kernel
theorem dX7_rate_32 : decode cX7_rate 32 = .ok (.iconst 0, 1) := by decide +kernel
theorem dX7_rate_33 : decode cX7_rate 33 = .ok (.istore 4, 2) := by decide +kernel
theorem dX7_rate_35 : decode cX7_rate 35 = .ok (.iload 4, 2) := by decide +kernel
theorem dX7_rate_37 : decode cX7_rate 37 = .ok (.iconst 4, 1) := by decide +kernel
theorem dX7_rate_38 : decode cX7_rate 38 = .ok (.if_icmp .ge 31, 3) := by decide +kernel
theorem dX7_rate_41 : decode cX7_rate 41 = .ok (.iload_n 3, 1) := by decide +kernel
theorem dX7_rate_42 : decode cX7_rate 42 = .ok (.aload_n 0, 1) := by decide +kernel
theorem dX7_rate_43 : decode cX7_rate 43 = .ok (.getfield 25, 3) := by decide +kernel
theorem dX7_rate_46 : decode cX7_rate 46 = .ok (.iconst 4, 1) := by decide +kernel
theorem dX7_rate_47 : decode cX7_rate 47 = .ok (.iload_n 2, 1) := by decide +kernel
theorem dX7_rate_48 : decode cX7_rate 48 = .ok (.imul, 1) := by decide +kernel
theorem dX7_rate_49 : decode cX7_rate 49 = .ok (.iload 4, 2) := by decide +kernel
theorem dX7_rate_51 : decode cX7_rate 51 = .ok (.iadd, 1) := by decide +kernel
theorem dX7_rate_52 : decode cX7_rate 52 = .ok (.iaload, 1) := by decide +kernel
theorem dX7_rate_53 : decode cX7_rate 53 = .ok (.ifCond .le 7, 3) := by decide +kernel
theorem dX7_rate_56 : decode cX7_rate 56 = .ok (.iconst 1, 1) := by decide +kernel
theorem dX7_rate_57 : decode cX7_rate 57 = .ok (.goto 4, 3) := by decide +kernel
theorem dX7_rate_60 : decode cX7_rate 60 = .ok (.iconst 0, 1) := by decide +kernel
theorem dX7_rate_61 : decode cX7_rate 61 = .ok (.iadd, 1) := by decide +kernel
theorem dX7_rate_62 : decode cX7_rate 62 = .ok (.istore_n 3, 1) := by decide +kernel
theorem dX7_rate_63 : decode cX7_rate 63 = .ok (.iinc 4 1, 3) := by decide +kernel
theorem dX7_rate_66 : decode cX7_rate 66 = .ok (.goto (-31), 3) := by decide +kernel
theorem dX7_rate_69 : decode cX7_rate 69 = .ok (.aload_n 0, 1) := by decide +kernel
theorem dX7_rate_70 : decode cX7_rate 70 = .ok (.getfield 16, 3) := by decide +kernel
theorem dX7_rate_73 : decode cX7_rate 73 = .ok (.iload_n 2, 1) := by decide +kernel
theorem dX7_rate_74 : decode cX7_rate 74 = .ok (.iaload, 1) := by decide +kernel
theorem dX7_rate_75 : decode cX7_rate 75 = .ok (.aload_n 0, 1) := by decide +kernel
theorem dX7_rate_76 : decode cX7_rate 76 = .ok (.iload_n 2, 1) := by decide +kernel
theorem dX7_rate_77 : decode cX7_rate 77 = .ok (.invokevirtual 161, 3) := by decide +kernel
theorem dX7_rate_80 : decode cX7_rate 80 = .ok (.isub, 1) := by decide +kernel
theorem dX7_rate_81 : decode cX7_rate 81 = .ok (.istore 4, 2) := by decide +kernel
theorem dX7_rate_83 : decode cX7_rate 83 = .ok (.aload_n 0, 1) := by decide +kernel
theorem dX7_rate_84 : decode cX7_rate 84 = .ok (.dup, 1) := by decide +kernel
theorem dX7_rate_85 : decode cX7_rate 85 = .ok (.getfield 210, 3) := by decide +kernel
theorem dX7_rate_88 : decode cX7_rate 88 = .ok (.iload_n 1, 1) := by decide +kernel
theorem dX7_rate_89 : decode cX7_rate 89 = .ok (.ifCond .ne 7, 3) := by decide +kernel
theorem dX7_rate_92 : decode cX7_rate 92 = .ok (.lconst 1, 1) := by decide +kernel
theorem dX7_rate_93 : decode cX7_rate 93 = .ok (.goto 50, 3) := by decide +kernel
theorem dX7_rate_96 : decode cX7_rate 96 = .ok (.iload_n 1, 1) := by decide +kernel
theorem dX7_rate_97 : decode cX7_rate 97 = .ok (.iconst 1, 1) := by decide +kernel
theorem dX7_rate_98 : decode cX7_rate 98 = .ok (.if_icmp .ne 9, 3) := by decide +kernel
theorem dX7_rate_101 : decode cX7_rate 101 = .ok (.ldc2_w 213, 3) := by decide +kernel
theorem dX7_rate_104 : decode cX7_rate 104 = .ok (.goto 39, 3) := by decide +kernel
theorem dX7_rate_107 : decode cX7_rate 107 = .ok (.iload_n 1, 1) := by decide +kernel
theorem dX7_rate_108 : decode cX7_rate 108 = .ok (.iconst 2, 1) := by decide +kernel
theorem dX7_rate_109 : decode cX7_rate 109 = .ok (.if_icmp .ne 9, 3) := by decide +kernel
theorem dX7_rate_112 : decode cX7_rate 112 = .ok (.ldc2_w 215, 3) := by decide +kernel
theorem dX7_rate_115 : decode cX7_rate 115 = .ok (.goto 28, 3) := by decide +kernel
theorem dX7_rate_118 : decode cX7_rate 118 = .ok (.iload_n 1, 1) := by decide +kernel
theorem dX7_rate_119 : decode cX7_rate 119 = .ok (.iconst 3, 1) := by decide +kernel
theorem dX7_rate_120 : decode cX7_rate 120 = .ok (.if_icmp .ne 9, 3) := by decide +kernel
theorem dX7_rate_123 : decode cX7_rate 123 = .ok (.ldc2_w 217, 3) := by decide +kernel
theorem dX7_rate_126 : decode cX7_rate 126 = .ok (.goto 17, 3) := by decide +kernel
theorem dX7_rate_129 : decode cX7_rate 129 = .ok (.iload_n 1, 1) := by decide +kernel
theorem dX7_rate_130 : decode cX7_rate 130 = .ok (.iconst 4, 1) := by decide +kernel
theorem dX7_rate_131 : decode cX7_rate 131 = .ok (.if_icmp .ne 9, 3) := by decide +kernel
theorem dX7_rate_134 : decode cX7_rate 134 = .ok (.ldc2_w 219, 3) := by decide +kernel
theorem dX7_rate_137 : decode cX7_rate 137 = .ok (.goto 6, 3) := by decide +kernel
theorem dX7_rate_140 : decode cX7_rate 140 = .ok (.ldc2_w 221, 3) := by decide +kernel
theorem dX7_rate_143 : decode cX7_rate 143 = .ok (.ladd, 1) := by decide +kernel
theorem dX7_rate_144 : decode cX7_rate 144 = .ok (.putfield 210, 3) := by decide +kernel
theorem dX7_rate_147 : decode cX7_rate 147 = .ok (.iload_n 1, 1) := by decide +kernel
theorem dX7_rate_148 : decode cX7_rate 148 = .ok (.ifCond .ne 12, 3) := by decide +kernel
theorem dX7_rate_151 : decode cX7_rate 151 = .ok (.aload_n 0, 1) := by decide +kernel
theorem dX7_rate_152 : decode cX7_rate 152 = .ok (.getfield 16, 3) := by decide +kernel
theorem dX7_rate_155 : decode cX7_rate 155 = .ok (.iload_n 2, 1) := by decide +kernel
theorem dX7_rate_156 : decode cX7_rate 156 = .ok (.iaload, 1) := by decide +kernel
theorem dX7_rate_157 : decode cX7_rate 157 = .ok (.goto 59, 3) := by decide +kernel
theorem dX7_rate_160 : decode cX7_rate 160 = .ok (.iload_n 1, 1) := by decide +kernel
theorem dX7_rate_161 : decode cX7_rate 161 = .ok (.iconst 1, 1) := by decide +kernel
theorem dX7_rate_162 : decode cX7_rate 162 = .ok (.if_icmp .ne 7, 3) := by decide +kernel
theorem dX7_rate_165 : decode cX7_rate 165 = .ok (.iload_n 3, 1) := by decide +kernel
theorem dX7_rate_166 : decode cX7_rate 166 = .ok (.goto 50, 3) := by decide +kernel
theorem dX7_rate_169 : decode cX7_rate 169 = .ok (.iload_n 1, 1) := by decide +kernel
theorem dX7_rate_170 : decode cX7_rate 170 = .ok (.iconst 2, 1) := by decide +kernel
theorem dX7_rate_171 : decode cX7_rate 171 = .ok (.if_icmp .ne 8, 3) := by decide +kernel
theorem dX7_rate_174 : decode cX7_rate 174 = .ok (.iload 4, 2) := by decide +kernel
theorem dX7_rate_176 : decode cX7_rate 176 = .ok (.goto 40, 3) := by decide +kernel
theorem dX7_rate_179 : decode cX7_rate 179 = .ok (.iload_n 1, 1) := by decide +kernel
theorem dX7_rate_180 : decode cX7_rate 180 = .ok (.iconst 3, 1) := by decide +kernel
theorem dX7_rate_181 : decode cX7_rate 181 = .ok (.if_icmp .ne 9, 3) := by decide +kernel
theorem dX7_rate_184 : decode cX7_rate 184 = .ok (.iconst 2, 1) := by decide +kernel
theorem dX7_rate_185 : decode cX7_rate 185 = .ok (.iload_n 3, 1) := by decide +kernel
theorem dX7_rate_186 : decode cX7_rate 186 = .ok (.imul, 1) := by decide +kernel
theorem dX7_rate_187 : decode cX7_rate 187 = .ok (.goto 29, 3) := by decide +kernel
theorem dX7_rate_190 : decode cX7_rate 190 = .ok (.iload_n 1, 1) := by decide +kernel
theorem dX7_rate_191 : decode cX7_rate 191 = .ok (.iconst 4, 1) := by decide +kernel
theorem dX7_rate_192 : decode cX7_rate 192 = .ok (.if_icmp .ne 10, 3) := by decide +kernel
theorem dX7_rate_195 : decode cX7_rate 195 = .ok (.iload 4, 2) := by decide +kernel
theorem dX7_rate_197 : decode cX7_rate 197 = .ok (.iload_n 2, 1) := by decide +kernel
theorem dX7_rate_198 : decode cX7_rate 198 = .ok (.iadd, 1) := by decide +kernel
theorem dX7_rate_199 : decode cX7_rate 199 = .ok (.goto 17, 3) := by decide +kernel
theorem dX7_rate_202 : decode cX7_rate 202 = .ok (.aload_n 0, 1) := by decide +kernel
theorem dX7_rate_203 : decode cX7_rate 203 = .ok (.getfield 16, 3) := by decide +kernel
theorem dX7_rate_206 : decode cX7_rate 206 = .ok (.iload_n 2, 1) := by decide +kernel
theorem dX7_rate_207 : decode cX7_rate 207 = .ok (.iaload, 1) := by decide +kernel
theorem dX7_rate_208 : decode cX7_rate 208 = .ok (.aload_n 0, 1) := by decide +kernel
theorem dX7_rate_209 : decode cX7_rate 209 = .ok (.getfield 25, 3) := by decide +kernel
theorem dX7_rate_212 : decode cX7_rate 212 = .ok (.bipush 65, 2) := by decide +kernel
theorem dX7_rate_214 : decode cX7_rate 214 = .ok (.iaload, 1) := by decide +kernel
theorem dX7_rate_215 : decode cX7_rate 215 = .ok (.iadd, 1) := by decide +kernel
theorem dX7_rate_216 : decode cX7_rate 216 = .ok (.ireturn, 1) := by decide +kernel
set_option maxRecDepth 20000 in
theorem ggX7_keep_X7_in : GoodIn wsX7_keep wsX7_in := goodIn_r _ [8] (by decide +kernel) (by decide +kernel)
set_option maxRecDepth 20000 in
theorem gX7_keep_X7_in : GoodIn wsX7_keep (va_wsS RX7 58 yX7_in wsX7_in) := goodIn_app (goodIn_of _ (by decide +kernel)) ggX7_keep_X7_in
theorem dX7_keep_0 : decode cX7_keep 0 = .ok (.aload_n 0, 1) := by decide +kernel
theorem dX7_keep_1 : decode cX7_keep 1 = .ok (.iconst 0, 1) := by decide +kernel
theorem dX7_keep_2 : decode cX7_keep 2 = .ok (.putfield 54, 3) := by decide +kernel
theorem dX7_keep_5 : decode cX7_keep 5 = .ok (.iload_n 1, 1) := by decide +kernel
theorem dX7_keep_6 : decode cX7_keep 6 = .ok (.iconst 0, 1) := by decide +kernel
theorem dX7_keep_7 : decode cX7_keep 7 = .ok (.iconst 1, 1) := by decide +kernel
theorem dX7_keep_8 : decode cX7_keep 8 = .ok (.invokestatic 58, 3) := by decide +kernel
theorem dX7_keep_11 : decode cX7_keep 11 = .ok (.ifCond .ne 5, 3) := by decide +kernel
theorem dX7_keep_14 : decode cX7_keep 14 = .ok (.iconst (-1), 1) := by decide +kernel
theorem dX7_keep_15 : decode cX7_keep 15 = .ok (.ireturn, 1) := by decide +kernel
theorem dX7_keep_16 : decode cX7_keep 16 = .ok (.iconst 0, 1) := by decide +kernel
theorem dX7_keep_17 : decode cX7_keep 17 = .ok (.istore_n 2, 1) := by decide +kernel
theorem dX7_keep_18 : decode cX7_keep 18 = .ok (.iload_n 2, 1) := by decide +kernel
theorem dX7_keep_19 : decode cX7_keep 19 = .ok (.bipush 67, 2) := by decide +kernel
theorem dX7_keep_21 : decode cX7_keep 21 = .ok (.if_icmp .ge 26, 3) := by decide +kernel
theorem dX7_keep_24 : decode cX7_keep 24 = .ok (.aload_n 0, 1) := by decide +kernel
theorem dX7_keep_25 : decode cX7_keep 25 = .ok (.getfield 28, 3) := by decide +kernel
theorem dX7_keep_28 : decode cX7_keep 28 = .ok (.bipush 67, 2) := by decide +kernel
theorem dX7_keep_30 : decode cX7_keep 30 = .ok (.iload_n 1, 1) := by decide +kernel
theorem dX7_keep_31 : decode cX7_keep 31 = .ok (.imul, 1) := by decide +kernel
theorem dX7_keep_32 : decode cX7_keep 32 = .ok (.iload_n 2, 1) := by decide +kernel
theorem dX7_keep_33 : decode cX7_keep 33 = .ok (.iadd, 1) := by decide +kernel
theorem dX7_keep_34 : decode cX7_keep 34 = .ok (.aload_n 0, 1) := by decide +kernel
theorem dX7_keep_35 : decode cX7_keep 35 = .ok (.getfield 25, 3) := by decide +kernel
theorem dX7_keep_38 : decode cX7_keep 38 = .ok (.iload_n 2, 1) := by decide +kernel
theorem dX7_keep_39 : decode cX7_keep 39 = .ok (.iaload, 1) := by decide +kernel
theorem dX7_keep_40 : decode cX7_keep 40 = .ok (.iastore, 1) := by decide +kernel
theorem dX7_keep_41 : decode cX7_keep 41 = .ok (.iinc 2 1, 3) := by decide +kernel
theorem dX7_keep_44 : decode cX7_keep 44 = .ok (.goto (-26), 3) := by decide +kernel
theorem dX7_keep_47 : decode cX7_keep 47 = .ok (.aload_n 0, 1) := by decide +kernel
theorem dX7_keep_48 : decode cX7_keep 48 = .ok (.getfield 31, 3) := by decide +kernel
theorem dX7_keep_51 : decode cX7_keep 51 = .ok (.iload_n 1, 1) := by decide +kernel
theorem dX7_keep_52 : decode cX7_keep 52 = .ok (.iconst 1, 1) := by decide +kernel
theorem dX7_keep_53 : decode cX7_keep 53 = .ok (.bastore, 1) := by decide +kernel
theorem dX7_keep_54 : decode cX7_keep 54 = .ok (.aload_n 0, 1) := by decide +kernel
theorem dX7_keep_55 : decode cX7_keep 55 = .ok (.getfield 25, 3) := by decide +kernel
theorem dX7_keep_58 : decode cX7_keep 58 = .ok (.bipush 65, 2) := by decide +kernel
theorem dX7_keep_60 : decode cX7_keep 60 = .ok (.iaload, 1) := by decide +kernel
theorem dX7_keep_61 : decode cX7_keep 61 = .ok (.ireturn, 1) := by decide +kernel
set_option maxRecDepth 20000 in
theorem ggX7_back_X7_in : GoodIn wsX7_back wsX7_in := goodIn_r _ [8] (by decide +kernel) (by decide +kernel)
set_option maxRecDepth 20000 in
theorem gX7_back_X7_in : GoodIn wsX7_back (va_wsS RX7 58 yX7_in wsX7_in) := goodIn_app (goodIn_of _ (by decide +kernel)) ggX7_back_X7_in
theorem dX7_back_0 : decode cX7_back 0 = .ok (.aload_n 0, 1) := by decide +kernel
