theorem dX5_comeRound_1 : decode cX5_comeRound 1 = .ok (.getfield 12, 3) := by decide +kernel
theorem dX5_comeRound_4 : decode cX5_comeRound 4 = .ok (.aload_n 1, 1) := by decide +kernel
theorem dX5_comeRound_5 : decode cX5_comeRound 5 = .ok (.invokevirtual 36, 3) := by decide +kernel
theorem dX5_comeRound_8 : decode cX5_comeRound 8 = .ok (.iconst 0, 1) := by decide +kernel
theorem dX5_comeRound_9 : decode cX5_comeRound 9 = .ok (.istore_n 3, 1) := by decide +kernel
theorem dX5_comeRound_10 : decode cX5_comeRound 10 = .ok (.iload_n 3, 1) := by decide +kernel
theorem dX5_comeRound_11 : decode cX5_comeRound 11 = .ok (.sipush 200, 3) := by decide +kernel
theorem dX5_comeRound_14 : decode cX5_comeRound 14 = .ok (.if_icmp .gt 72, 3) := by decide +kernel
theorem dX5_comeRound_17 : decode cX5_comeRound 17 = .ok (.aload_n 0, 1) := by decide +kernel
theorem dX5_comeRound_18 : decode cX5_comeRound 18 = .ok (.getfield 18, 3) := by decide +kernel
theorem dX5_comeRound_21 : decode cX5_comeRound 21 = .ok (.iload_n 3, 1) := by decide +kernel
theorem dX5_comeRound_22 : decode cX5_comeRound 22 = .ok (.aload_n 0, 1) := by decide +kernel
theorem dX5_comeRound_23 : decode cX5_comeRound 23 = .ok (.getfield 12, 3) := by decide +kernel
theorem dX5_comeRound_26 : decode cX5_comeRound 26 = .ok (.iconst 0, 1) := by decide +kernel
theorem dX5_comeRound_27 : decode cX5_comeRound 27 = .ok (.invokevirtual 40, 3) := by decide +kernel
theorem dX5_comeRound_30 : decode cX5_comeRound 30 = .ok (.lastore, 1) := by decide +kernel
theorem dX5_comeRound_31 : decode cX5_comeRound 31 = .ok (.aload_n 0, 1) := by decide +kernel
theorem dX5_comeRound_32 : decode cX5_comeRound 32 = .ok (.getfield 22, 3) := by decide +kernel
theorem dX5_comeRound_35 : decode cX5_comeRound 35 = .ok (.iload_n 3, 1) := by decide +kernel
theorem dX5_comeRound_36 : decode cX5_comeRound 36 = .ok (.aload_n 0, 1) := by decide +kernel
theorem dX5_comeRound_37 : decode cX5_comeRound 37 = .ok (.getfield 12, 3) := by decide +kernel
theorem dX5_comeRound_40 : decode cX5_comeRound 40 = .ok (.iconst 3, 1) := by decide +kernel
theorem dX5_comeRound_41 : decode cX5_comeRound 41 = .ok (.invokevirtual 40, 3) := by decide +kernel
theorem dX5_comeRound_44 : decode cX5_comeRound 44 = .ok (.lastore, 1) := by decide +kernel
theorem dX5_comeRound_45 : decode cX5_comeRound 45 = .ok (.aload_n 0, 1) := by decide +kernel
theorem dX5_comeRound_46 : decode cX5_comeRound 46 = .ok (.aload_n 0, 1) := by decide +kernel
theorem dX5_comeRound_47 : decode cX5_comeRound 47 = .ok (.iload_n 3, 1) := by decide +kernel
theorem dX5_comeRound_48 : decode cX5_comeRound 48 = .ok (.invokevirtual 44, 3) := by decide +kernel
theorem dX5_comeRound_51 : decode cX5_comeRound 51 = .ok (.putfield 29, 3) := by decide +kernel
theorem dX5_comeRound_54 : decode cX5_comeRound 54 = .ok (.aload_n 0, 1) := by decide +kernel
theorem dX5_comeRound_55 : decode cX5_comeRound 55 = .ok (.getfield 29, 3) := by decide +kernel
theorem dX5_comeRound_58 : decode cX5_comeRound 58 = .ok (.bipush (-9), 2) := by decide +kernel
theorem dX5_comeRound_60 : decode cX5_comeRound 60 = .ok (.if_icmp .eq 15, 3) := by decide +kernel
theorem dX5_comeRound_63 : decode cX5_comeRound 63 = .ok (.aload_n 0, 1) := by decide +kernel
theorem dX5_comeRound_64 : decode cX5_comeRound 64 = .ok (.iload_n 3, 1) := by decide +kernel
theorem dX5_comeRound_65 : decode cX5_comeRound 65 = .ok (.aload_n 0, 1) := by decide +kernel
theorem dX5_comeRound_66 : decode cX5_comeRound 66 = .ok (.getfield 29, 3) := by decide +kernel
theorem dX5_comeRound_69 : decode cX5_comeRound 69 = .ok (.isub, 1) := by decide +kernel
theorem dX5_comeRound_70 : decode cX5_comeRound 70 = .ok (.putfield 33, 3) := by decide +kernel
theorem dX5_comeRound_73 : decode cX5_comeRound 73 = .ok (.iconst 1, 1) := by decide +kernel
theorem dX5_comeRound_74 : decode cX5_comeRound 74 = .ok (.ireturn, 1) := by decide +kernel
theorem dX5_comeRound_75 : decode cX5_comeRound 75 = .ok (.aload_n 0, 1) := by decide +kernel
theorem dX5_comeRound_76 : decode cX5_comeRound 76 = .ok (.iload_n 2, 1) := by decide +kernel
theorem dX5_comeRound_77 : decode cX5_comeRound 77 = .ok (.invokevirtual 48, 3) := by decide +kernel
theorem dX5_comeRound_80 : decode cX5_comeRound 80 = .ok (.iinc 3 1, 3) := by decide +kernel
theorem dX5_comeRound_83 : decode cX5_comeRound 83 = .ok (.goto (-73), 3) := by decide +kernel
theorem dX5_comeRound_86 : decode cX5_comeRound 86 = .ok (.iconst 0, 1) := by decide +kernel
theorem dX5_comeRound_87 : decode cX5_comeRound 87 = .ok (.ireturn, 1) := by decide +kernel
theorem dX5_yearLike_0 : decode cX5_yearLike 0 = .ok (.iconst 0, 1) := by decide +kernel
theorem dX5_yearLike_1 : decode cX5_yearLike 1 = .ok (.istore_n 2, 1) := by decide +kernel
theorem dX5_yearLike_2 : decode cX5_yearLike 2 = .ok (.iload_n 2, 1) := by decide +kernel
theorem dX5_yearLike_3 : decode cX5_yearLike 3 = .ok (.iload_n 1, 1) := by decide +kernel
theorem dX5_yearLike_4 : decode cX5_yearLike 4 = .ok (.if_icmp .ge 43, 3) := by decide +kernel
theorem dX5_yearLike_7 : decode cX5_yearLike 7 = .ok (.aload_n 0, 1) := by decide +kernel
theorem dX5_yearLike_8 : decode cX5_yearLike 8 = .ok (.getfield 18, 3) := by decide +kernel
theorem dX5_yearLike_11 : decode cX5_yearLike 11 = .ok (.iload_n 2, 1) := by decide +kernel
theorem dX5_yearLike_12 : decode cX5_yearLike 12 = .ok (.laload, 1) := by decide +kernel
theorem dX5_yearLike_13 : decode cX5_yearLike 13 = .ok (.aload_n 0, 1) := by decide +kernel
theorem dX5_yearLike_14 : decode cX5_yearLike 14 = .ok (.getfield 18, 3) := by decide +kernel
theorem dX5_yearLike_17 : decode cX5_yearLike 17 = .ok (.iload_n 1, 1) := by decide +kernel
theorem dX5_yearLike_18 : decode cX5_yearLike 18 = .ok (.laload, 1) := by decide +kernel
theorem dX5_yearLike_19 : decode cX5_yearLike 19 = .ok (.lcmp, 1) := by decide +kernel
theorem dX5_yearLike_20 : decode cX5_yearLike 20 = .ok (.ifCond .ne 21, 3) := by decide +kernel
theorem dX5_yearLike_23 : decode cX5_yearLike 23 = .ok (.aload_n 0, 1) := by decide +kernel
theorem dX5_yearLike_24 : decode cX5_yearLike 24 = .ok (.getfield 22, 3) := by decide +kernel
theorem dX5_yearLike_27 : decode cX5_yearLike 27 = .ok (.iload_n 2, 1) := by decide +kernel
theorem dX5_yearLike_28 : decode cX5_yearLike 28 = .ok (.laload, 1) := by decide +kernel
theorem dX5_yearLike_29 : decode cX5_yearLike 29 = .ok (.aload_n 0, 1) := by decide +kernel
theorem dX5_yearLike_30 : decode cX5_yearLike 30 = .ok (.getfield 22, 3) := by decide +kernel
theorem dX5_yearLike_33 : decode cX5_yearLike 33 = .ok (.iload_n 1, 1) := by decide +kernel
theorem dX5_yearLike_34 : decode cX5_yearLike 34 = .ok (.laload, 1) := by decide +kernel
theorem dX5_yearLike_35 : decode cX5_yearLike 35 = .ok (.lcmp, 1) := by decide +kernel
theorem dX5_yearLike_36 : decode cX5_yearLike 36 = .ok (.ifCond .ne 5, 3) := by decide +kernel
theorem dX5_yearLike_39 : decode cX5_yearLike 39 = .ok (.iload_n 2, 1) := by decide +kernel
theorem dX5_yearLike_40 : decode cX5_yearLike 40 = .ok (.ireturn, 1) := by decide +kernel
theorem dX5_yearLike_41 : decode cX5_yearLike 41 = .ok (.iinc 2 1, 3) := by decide +kernel
theorem dX5_yearLike_44 : decode cX5_yearLike 44 = .ok (.goto (-42), 3) := by decide +kernel
theorem dX5_yearLike_47 : decode cX5_yearLike 47 = .ok (.bipush (-9), 2) := by decide +kernel
theorem dX5_yearLike_49 : decode cX5_yearLike 49 = .ok (.ireturn, 1) := by decide +kernel
set_option maxRecDepth 20000 in
theorem ggX5_goOn_X4_heaviest : GoodIn wsX5_goOn wsX4_heaviest := goodIn_r _ [6, 7, 8, 9, 4, 10, 11, 32] (by decide +kernel) (by decide +kernel)
set_option maxRecDepth 20000 in
theorem gX5_goOn_X4_heaviest_n52 : GoodIn wsX5_goOn (wsX4_heaviest) := ggX5_goOn_X4_heaviest
set_option maxRecDepth 20000 in
theorem ggX5_goOn_X4_pass : GoodIn wsX5_goOn wsX4_pass := goodIn_r _ [14, 15, 16, 17, 18, 19, 20, 21, 7, 8, 9, 4, 10, 11, 22, 23, 24, 25, 32] (by decide +kernel) (by decide +kernel)
set_option maxRecDepth 20000 in
theorem gX5_goOn_X4_pass_n55 : GoodIn wsX5_goOn (wsX4_pass) := ggX5_goOn_X4_pass
theorem dX5_goOn_0 : decode cX5_goOn 0 = .ok (.iconst 0, 1) := by decide +kernel
theorem dX5_goOn_1 : decode cX5_goOn 1 = .ok (.istore_n 2, 1) := by decide +kernel
theorem dX5_goOn_2 : decode cX5_goOn 2 = .ok (.iload_n 2, 1) := by decide +kernel
theorem dX5_goOn_3 : decode cX5_goOn 3 = .ok (.iconst 4, 1) := by decide +kernel
theorem dX5_goOn_4 : decode cX5_goOn 4 = .ok (.if_icmp .ge 16, 3) := by decide +kernel
theorem dX5_goOn_7 : decode cX5_goOn 7 = .ok (.aload_n 0, 1) := by decide +kernel
theorem dX5_goOn_8 : decode cX5_goOn 8 = .ok (.getfield 25, 3) := by decide +kernel
theorem dX5_goOn_11 : decode cX5_goOn 11 = .ok (.iload_n 2, 1) := by decide +kernel
theorem dX5_goOn_12 : decode cX5_goOn 12 = .ok (.iconst 0, 1) := by decide +kernel
theorem dX5_goOn_13 : decode cX5_goOn 13 = .ok (.iastore, 1) := by decide +kernel
theorem dX5_goOn_14 : decode cX5_goOn 14 = .ok (.iinc 2 1, 3) := by decide +kernel
theorem dX5_goOn_17 : decode cX5_goOn 17 = .ok (.goto (-15), 3) := by decide +kernel
theorem dX5_goOn_20 : decode cX5_goOn 20 = .ok (.iconst 0, 1) := by decide +kernel
theorem dX5_goOn_21 : decode cX5_goOn 21 = .ok (.istore_n 2, 1) := by decide +kernel
theorem dX5_goOn_22 : decode cX5_goOn 22 = .ok (.iload_n 2, 1) := by decide +kernel
theorem dX5_goOn_23 : decode cX5_goOn 23 = .ok (.bipush 6, 2) := by decide +kernel
theorem dX5_goOn_25 : decode cX5_goOn 25 = .ok (.if_icmp .ge 34, 3) := by decide +kernel
theorem dX5_goOn_28 : decode cX5_goOn 28 = .ok (.aload_n 0, 1) := by decide +kernel
theorem dX5_goOn_29 : decode cX5_goOn 29 = .ok (.getfield 12, 3) := by decide +kernel
theorem dX5_goOn_32 : decode cX5_goOn 32 = .ok (.iload_n 2, 1) := by decide +kernel
theorem dX5_goOn_33 : decode cX5_goOn 33 = .ok (.invokevirtual 52, 3) := by decide +kernel
theorem dX5_goOn_36 : decode cX5_goOn 36 = .ok (.istore_n 3, 1) := by decide +kernel
theorem dX5_goOn_37 : decode cX5_goOn 37 = .ok (.iload_n 3, 1) := by decide +kernel
theorem dX5_goOn_38 : decode cX5_goOn 38 = .ok (.bipush (-9), 2) := by decide +kernel
theorem dX5_goOn_40 : decode cX5_goOn 40 = .ok (.if_icmp .eq 13, 3) := by decide +kernel
theorem dX5_goOn_43 : decode cX5_goOn 43 = .ok (.aload_n 0, 1) := by decide +kernel
theorem dX5_goOn_44 : decode cX5_goOn 44 = .ok (.getfield 25, 3) := by decide +kernel
theorem dX5_goOn_47 : decode cX5_goOn 47 = .ok (.iload_n 3, 1) := by decide +kernel
theorem dX5_goOn_48 : decode cX5_goOn 48 = .ok (.dup2, 1) := by decide +kernel
theorem dX5_goOn_49 : decode cX5_goOn 49 = .ok (.iaload, 1) := by decide +kernel
theorem dX5_goOn_50 : decode cX5_goOn 50 = .ok (.iconst 1, 1) := by decide +kernel
theorem dX5_goOn_51 : decode cX5_goOn 51 = .ok (.iadd, 1) := by decide +kernel
theorem dX5_goOn_52 : decode cX5_goOn 52 = .ok (.iastore, 1) := by decide +kernel
theorem dX5_goOn_53 : decode cX5_goOn 53 = .ok (.iinc 2 1, 3) := by decide +kernel
theorem dX5_goOn_56 : decode cX5_goOn 56 = .ok (.goto (-34), 3) := by decide +kernel
theorem dX5_goOn_59 : decode cX5_goOn 59 = .ok (.iconst 0, 1) := by decide +kernel
theorem dX5_goOn_60 : decode cX5_goOn 60 = .ok (.istore_n 2, 1) := by decide +kernel
theorem dX5_goOn_61 : decode cX5_goOn 61 = .ok (.iload_n 2, 1) := by decide +kernel
theorem dX5_goOn_62 : decode cX5_goOn 62 = .ok (.iconst 4, 1) := by decide +kernel
theorem dX5_goOn_63 : decode cX5_goOn 63 = .ok (.if_icmp .ge 24, 3) := by decide +kernel
theorem dX5_goOn_66 : decode cX5_goOn 66 = .ok (.aload_n 0, 1) := by decide +kernel
theorem dX5_goOn_67 : decode cX5_goOn 67 = .ok (.getfield 12, 3) := by decide +kernel
theorem dX5_goOn_70 : decode cX5_goOn 70 = .ok (.iload_n 2, 1) := by decide +kernel
theorem dX5_goOn_71 : decode cX5_goOn 71 = .ok (.aload_n 0, 1) := by decide +kernel
theorem dX5_goOn_72 : decode cX5_goOn 72 = .ok (.getfield 25, 3) := by decide +kernel
theorem dX5_goOn_75 : decode cX5_goOn 75 = .ok (.iload_n 2, 1) := by decide +kernel
theorem dX5_goOn_76 : decode cX5_goOn 76 = .ok (.iaload, 1) := by decide +kernel
theorem dX5_goOn_77 : decode cX5_goOn 77 = .ok (.iload_n 1, 1) := by decide +kernel
theorem dX5_goOn_78 : decode cX5_goOn 78 = .ok (.invokevirtual 55, 3) := by decide +kernel
theorem dX5_goOn_81 : decode cX5_goOn 81 = .ok (.iinc 2 1, 3) := by decide +kernel
theorem dX5_goOn_84 : decode cX5_goOn 84 = .ok (.goto (-23), 3) := by decide +kernel
theorem dX5_goOn_87 : decode cX5_goOn 87 = .ok (.return_, 1) := by decide +kernel
set_option maxRecDepth 20000 in
theorem ggX6_init_X2_init : GoodIn wsX6_init wsX2_init := goodIn_r _ [31, 32, 2, 3, 33, 34, 35, 9, 10, 36, 26, 37, 38, 39, 40, 41, 42, 43, 44, 45, 46, 47, 48, 49, 50, 51, 52, 53, 54, 55, 56, 57, 58, 59, 60, 61, 62, 99, 100, 101, 102, 103, 104, 105, 106, 107, 108, 109, 120, 121, 122, 123, 124, 125, 126, 147] (by decide +kernel) (by decide +kernel)
set_option maxRecDepth 20000 in
theorem gX6_init_X2_init_n11 : GoodIn wsX6_init (wsX2_init) := ggX6_init_X2_init
set_option maxRecDepth 20000 in
theorem ggX6_init_X3_init : GoodIn wsX6_init wsX3_init := goodIn_r _ [47, 48, 2, 3, 49, 50, 51, 52, 26, 53, 54, 55, 56, 57, 58, 59, 60, 61, 62, 147, 120, 121, 122, 123, 124, 125, 126] (by decide +kernel) (by decide +kernel)
set_option maxRecDepth 20000 in
theorem gX6_init_X3_init_n18 : GoodIn wsX6_init (wsX3_init) := ggX6_init_X3_init
set_option maxRecDepth 20000 in
theorem ggX6_init_X1_init : GoodIn wsX6_init wsX1_init := goodIn_r _ [64, 65, 2, 3, 66, 50, 51, 67, 26, 68, 69, 70, 71, 72, 73, 74, 59, 60, 61, 62, 75, 76, 77, 14, 78, 147, 127, 128, 129, 130, 131, 132, 133, 134] (by decide +kernel) (by decide +kernel)
set_option maxRecDepth 20000 in
theorem gX6_init_X1_init_n25 : GoodIn wsX6_init (wsX1_init) := ggX6_init_X1_init
set_option maxRecDepth 20000 in
theorem ggX6_init_X0_init : GoodIn wsX6_init wsX0_init := goodIn_r _ [80, 81, 2, 3, 82, 83, 84, 85, 26, 86, 87, 88, 135, 136, 137, 138, 139, 140] (by decide +kernel) (by decide +kernel)
set_option maxRecDepth 20000 in
theorem gX6_init_X0_init_n38 : GoodIn wsX6_init (wsX0_init) := ggX6_init_X0_init
set_option maxRecDepth 20000 in
theorem ggX6_init_X5_init : GoodIn wsX6_init wsX5_init := goodIn_r _ [90, 91, 2, 3, 92, 50, 51, 93, 82, 94, 95, 26, 96, 97, 98, 59, 60, 61, 62, 147, 141, 142, 143, 144, 145, 146] (by decide +kernel) (by decide +kernel)
set_option maxRecDepth 20000 in
theorem gX6_init_X5_init_n45 : GoodIn wsX6_init (wsX5_init) := ggX6_init_X5_init
theorem dX6_init_0 : decode cX6_init 0 = .ok (.aload_n 0, 1) := by decide +kernel
theorem dX6_init_1 : decode cX6_init 1 = .ok (.invokespecial 3, 3) := by decide +kernel
theorem dX6_init_4 : decode cX6_init 4 = .ok (.aload_n 0, 1) := by decide +kernel
theorem dX6_init_5 : decode cX6_init 5 = .ok (.new 9, 3) := by decide +kernel
theorem dX6_init_8 : decode cX6_init 8 = .ok (.dup, 1) := by decide +kernel
theorem dX6_init_9 : decode cX6_init 9 = .ok (.invokespecial 11, 3) := by decide +kernel
theorem dX6_init_12 : decode cX6_init 12 = .ok (.putfield 12, 3) := by decide +kernel
theorem dX6_init_15 : decode cX6_init 15 = .ok (.aload_n 0, 1) := by decide +kernel
theorem dX6_init_16 : decode cX6_init 16 = .ok (.new 16, 3) := by decide +kernel
theorem dX6_init_19 : decode cX6_init 19 = .ok (.dup, 1) := by decide +kernel
theorem dX6_init_20 : decode cX6_init 20 = .ok (.invokespecial 18, 3) := by decide +kernel
theorem dX6_init_23 : decode cX6_init 23 = .ok (.putfield 19, 3) := by decide +kernel
theorem dX6_init_26 : decode cX6_init 26 = .ok (.aload_n 0, 1) := by decide +kernel
theorem dX6_init_27 : decode cX6_init 27 = .ok (.new 23, 3) := by decide +kernel
theorem dX6_init_30 : decode cX6_init 30 = .ok (.dup, 1) := by decide +kernel
theorem dX6_init_31 : decode cX6_init 31 = .ok (.invokespecial 25, 3) := by decide +kernel
theorem dX6_init_34 : decode cX6_init 34 = .ok (.putfield 26, 3) := by decide +kernel
theorem dX6_init_37 : decode cX6_init 37 = .ok (.aload_n 0, 1) := by decide +kernel
theorem dX6_init_38 : decode cX6_init 38 = .ok (.new 23, 3) := by decide +kernel
theorem dX6_init_41 : decode cX6_init 41 = .ok (.dup, 1) := by decide +kernel
theorem dX6_init_42 : decode cX6_init 42 = .ok (.invokespecial 25, 3) := by decide +kernel
theorem dX6_init_45 : decode cX6_init 45 = .ok (.putfield 30, 3) := by decide +kernel
theorem dX6_init_48 : decode cX6_init 48 = .ok (.aload_n 0, 1) := by decide +kernel
theorem dX6_init_49 : decode cX6_init 49 = .ok (.new 23, 3) := by decide +kernel
theorem dX6_init_52 : decode cX6_init 52 = .ok (.dup, 1) := by decide +kernel
theorem dX6_init_53 : decode cX6_init 53 = .ok (.invokespecial 25, 3) := by decide +kernel
theorem dX6_init_56 : decode cX6_init 56 = .ok (.putfield 33, 3) := by decide +kernel
theorem dX6_init_59 : decode cX6_init 59 = .ok (.aload_n 0, 1) := by decide +kernel
theorem dX6_init_60 : decode cX6_init 60 = .ok (.new 36, 3) := by decide +kernel
theorem dX6_init_63 : decode cX6_init 63 = .ok (.dup, 1) := by decide +kernel
theorem dX6_init_64 : decode cX6_init 64 = .ok (.invokespecial 38, 3) := by decide +kernel
theorem dX6_init_67 : decode cX6_init 67 = .ok (.putfield 39, 3) := by decide +kernel
theorem dX6_init_70 : decode cX6_init 70 = .ok (.aload_n 0, 1) := by decide +kernel
theorem dX6_init_71 : decode cX6_init 71 = .ok (.new 43, 3) := by decide +kernel
theorem dX6_init_74 : decode cX6_init 74 = .ok (.dup, 1) := by decide +kernel
theorem dX6_init_75 : decode cX6_init 75 = .ok (.invokespecial 45, 3) := by decide +kernel
theorem dX6_init_78 : decode cX6_init 78 = .ok (.putfield 46, 3) := by decide +kernel
theorem dX6_init_81 : decode cX6_init 81 = .ok (.aload_n 0, 1) := by decide +kernel
theorem dX6_init_82 : decode cX6_init 82 = .ok (.bipush 6, 2) := by decide +kernel
theorem dX6_init_84 : decode cX6_init 84 = .ok (.newarray .int, 2) := by decide +kernel
theorem dX6_init_86 : decode cX6_init 86 = .ok (.putfield 50, 3) := by decide +kernel
theorem dX6_init_89 : decode cX6_init 89 = .ok (.aload_n 0, 1) := by decide +kernel
theorem dX6_init_90 : decode cX6_init 90 = .ok (.iconst 0, 1) := by decide +kernel
theorem dX6_init_91 : decode cX6_init 91 = .ok (.putfield 54, 3) := by decide +kernel
theorem dX6_init_94 : decode cX6_init 94 = .ok (.aload_n 0, 1) := by decide +kernel
theorem dX6_init_95 : decode cX6_init 95 = .ok (.lconst 0, 1) := by decide +kernel
theorem dX6_init_96 : decode cX6_init 96 = .ok (.putfield 58, 3) := by decide +kernel
theorem dX6_init_99 : decode cX6_init 99 = .ok (.aload_n 0, 1) := by decide +kernel
theorem dX6_init_100 : decode cX6_init 100 = .ok (.getfield 26, 3) := by decide +kernel
theorem dX6_init_103 : decode cX6_init 103 = .ok (.iconst 1, 1) := by decide +kernel
theorem dX6_init_104 : decode cX6_init 104 = .ok (.putfield 62, 3) := by decide +kernel
theorem dX6_init_107 : decode cX6_init 107 = .ok (.return_, 1) := by decide +kernel
set_option maxRecDepth 20000 in
theorem ggX6_type_X2_add : GoodIn wsX6_type wsX2_add := goodIn_r _ [5, 6, 7, 18, 19, 20, 21, 22, 23, 24, 25, 26, 27, 28] (by decide +kernel) (by decide +kernel)
set_option maxRecDepth 20000 in
theorem gX6_type_X2_add_n68 : GoodIn wsX6_type (wsX2_add) := ggX6_type_X2_add
theorem dX6_type_0 : decode cX6_type 0 = .ok (.iload_n 3, 1) := by decide +kernel
theorem dX6_type_1 : decode cX6_type 1 = .ok (.iconst 1, 1) := by decide +kernel
theorem dX6_type_2 : decode cX6_type 2 = .ok (.if_icmp .lt 9, 3) := by decide +kernel
theorem dX6_type_5 : decode cX6_type 5 = .ok (.iload_n 3, 1) := by decide +kernel
theorem dX6_type_6 : decode cX6_type 6 = .ok (.bipush 8, 2) := by decide +kernel
theorem dX6_type_8 : decode cX6_type 8 = .ok (.if_icmp .le 5, 3) := by decide +kernel
theorem dX6_type_11 : decode cX6_type 11 = .ok (.iconst (-1), 1) := by decide +kernel
theorem dX6_type_12 : decode cX6_type 12 = .ok (.ireturn, 1) := by decide +kernel
theorem dX6_type_13 : decode cX6_type 13 = .ok (.aload_n 0, 1) := by decide +kernel
theorem dX6_type_14 : decode cX6_type 14 = .ok (.getfield 12, 3) := by decide +kernel
theorem dX6_type_17 : decode cX6_type 17 = .ok (.getfield 65, 3) := by decide +kernel
theorem dX6_type_20 : decode cX6_type 20 = .ok (.iload_n 3, 1) := by decide +kernel
theorem dX6_type_21 : decode cX6_type 21 = .ok (.iadd, 1) := by decide +kernel
theorem dX6_type_22 : decode cX6_type 22 = .ok (.sipush 300, 3) := by decide +kernel
theorem dX6_type_25 : decode cX6_type 25 = .ok (.if_icmp .le 6, 3) := by decide +kernel
theorem dX6_type_28 : decode cX6_type 28 = .ok (.bipush (-3), 2) := by decide +kernel
theorem dX6_type_30 : decode cX6_type 30 = .ok (.ireturn, 1) := by decide +kernel
theorem dX6_type_31 : decode cX6_type 31 = .ok (.aload_n 0, 1) := by decide +kernel
theorem dX6_type_32 : decode cX6_type 32 = .ok (.getfield 12, 3) := by decide +kernel
theorem dX6_type_35 : decode cX6_type 35 = .ok (.lload_n 1, 1) := by decide +kernel
theorem dX6_type_36 : decode cX6_type 36 = .ok (.iload_n 3, 1) := by decide +kernel
theorem dX6_type_37 : decode cX6_type 37 = .ok (.invokevirtual 68, 3) := by decide +kernel
theorem dX6_type_40 : decode cX6_type 40 = .ok (.aload_n 0, 1) := by decide +kernel
theorem dX6_type_41 : decode cX6_type 41 = .ok (.getfield 12, 3) := by decide +kernel
theorem dX6_type_44 : decode cX6_type 44 = .ok (.getfield 65, 3) := by decide +kernel
theorem dX6_type_47 : decode cX6_type 47 = .ok (.ireturn, 1) := by decide +kernel
theorem dX6_clear_0 : decode cX6_clear 0 = .ok (.aload_n 0, 1) := by decide +kernel
theorem dX6_clear_1 : decode cX6_clear 1 = .ok (.getfield 12, 3) := by decide +kernel
theorem dX6_clear_4 : decode cX6_clear 4 = .ok (.getfield 65, 3) := by decide +kernel
theorem dX6_clear_7 : decode cX6_clear 7 = .ok (.istore_n 1, 1) := by decide +kernel
theorem dX6_clear_8 : decode cX6_clear 8 = .ok (.aload_n 0, 1) := by decide +kernel
theorem dX6_clear_9 : decode cX6_clear 9 = .ok (.getfield 12, 3) := by decide +kernel
theorem dX6_clear_12 : decode cX6_clear 12 = .ok (.iconst 0, 1) := by decide +kernel
theorem dX6_clear_13 : decode cX6_clear 13 = .ok (.putfield 65, 3) := by decide +kernel
theorem dX6_clear_16 : decode cX6_clear 16 = .ok (.iload_n 1, 1) := by decide +kernel
theorem dX6_clear_17 : decode cX6_clear 17 = .ok (.ireturn, 1) := by decide +kernel
set_option maxRecDepth 20000 in
theorem ggX6_village_X2_read : GoodIn wsX6_village wsX2_read := goodIn_r _ [8, 9, 10, 11, 12, 13, 14, 15, 16, 17, 18, 19, 20, 21, 22, 23, 24, 25, 26, 27, 28, 29, 30, 31, 32, 33, 6, 34, 35, 36, 37, 38, 39, 40, 41, 42, 43, 44, 45, 46, 47, 48, 49, 50, 51, 52, 53, 54, 55, 56, 57, 58, 59, 60, 61, 62, 63, 64, 65, 66, 67, 68, 69, 70, 71, 72, 73, 74, 75, 76, 77, 78, 79, 80, 81, 82, 83, 84, 85, 86, 87, 88, 89, 90, 91, 92, 93, 94, 95, 96, 97, 98, 99, 100, 101, 102, 103, 104, 105, 106, 107, 108, 109, 110, 111, 112, 113, 114, 115, 116, 117, 118, 119, 120, 121, 122, 123, 124, 125, 126, 127, 128, 129, 130, 131, 132, 133, 134, 135, 136, 137, 138, 139, 140, 141, 142, 179, 180, 181, 182, 183, 184, 185, 186, 187, 188, 189, 190, 191, 192, 193, 194, 195, 196, 197] (by decide +kernel) (by decide +kernel)
set_option maxRecDepth 20000 in
theorem gX6_village_X2_read_n72 : GoodIn wsX6_village (wsX2_read) := ggX6_village_X2_read
set_option maxRecDepth 20000 in
theorem ggX6_village_X3_copyFrom : GoodIn wsX6_village wsX3_copyFrom := goodIn_r _ [145, 19, 20, 146, 147, 148, 149, 21, 22, 23, 24, 25, 150, 27, 151, 152, 30, 153, 190, 191, 192, 193, 194, 195, 196, 197] (by decide +kernel) (by decide +kernel)
set_option maxRecDepth 20000 in
theorem gX6_village_X3_copyFrom_n79 : GoodIn wsX6_village (wsX3_copyFrom) := ggX6_village_X3_copyFrom
set_option maxRecDepth 20000 in
theorem ggX6_village_X1_begin : GoodIn wsX6_village wsX1_begin := goodIn_r _ [157, 158, 159, 150, 27, 151, 152, 30, 153, 147, 148, 149, 160, 161, 162, 155, 163, 164, 165, 166, 167, 168, 198, 199, 200, 201, 202, 203, 204, 205, 197] (by decide +kernel) (by decide +kernel)
set_option maxRecDepth 20000 in
theorem gX6_village_X1_begin_n87 : GoodIn wsX6_village (wsX1_begin) := ggX6_village_X1_begin
theorem dX6_village_0 : decode cX6_village 0 = .ok (.aload_n 0, 1) := by decide +kernel
theorem dX6_village_1 : decode cX6_village 1 = .ok (.getfield 12, 3) := by decide +kernel
theorem dX6_village_4 : decode cX6_village 4 = .ok (.invokevirtual 72, 3) := by decide +kernel
theorem dX6_village_7 : decode cX6_village 7 = .ok (.istore_n 1, 1) := by decide +kernel
theorem dX6_village_8 : decode cX6_village 8 = .ok (.iload_n 1, 1) := by decide +kernel
theorem dX6_village_9 : decode cX6_village 9 = .ok (.ifCond .ge 5, 3) := by decide +kernel
theorem dX6_village_12 : decode cX6_village 12 = .ok (.iload_n 1, 1) := by decide +kernel
theorem dX6_village_13 : decode cX6_village 13 = .ok (.ireturn, 1) := by decide +kernel
theorem dX6_village_14 : decode cX6_village 14 = .ok (.aload_n 0, 1) := by decide +kernel
theorem dX6_village_15 : decode cX6_village 15 = .ok (.getfield 12, 3) := by decide +kernel
theorem dX6_village_18 : decode cX6_village 18 = .ok (.iconst 0, 1) := by decide +kernel
theorem dX6_village_19 : decode cX6_village 19 = .ok (.putfield 65, 3) := by decide +kernel
theorem dX6_village_22 : decode cX6_village 22 = .ok (.aload_n 0, 1) := by decide +kernel
theorem dX6_village_23 : decode cX6_village 23 = .ok (.getfield 19, 3) := by decide +kernel
theorem dX6_village_26 : decode cX6_village 26 = .ok (.aload_n 0, 1) := by decide +kernel
theorem dX6_village_27 : decode cX6_village 27 = .ok (.getfield 12, 3) := by decide +kernel
theorem dX6_village_30 : decode cX6_village 30 = .ok (.getfield 76, 3) := by decide +kernel
theorem dX6_village_33 : decode cX6_village 33 = .ok (.invokevirtual 79, 3) := by decide +kernel
theorem dX6_village_36 : decode cX6_village 36 = .ok (.aload_n 0, 1) := by decide +kernel
theorem dX6_village_37 : decode cX6_village 37 = .ok (.getfield 26, 3) := by decide +kernel
theorem dX6_village_40 : decode cX6_village 40 = .ok (.aload_n 0, 1) := by decide +kernel
theorem dX6_village_41 : decode cX6_village 41 = .ok (.getfield 19, 3) := by decide +kernel
theorem dX6_village_44 : decode cX6_village 44 = .ok (.getfield 83, 3) := by decide +kernel
theorem dX6_village_47 : decode cX6_village 47 = .ok (.invokevirtual 87, 3) := by decide +kernel
theorem dX6_village_50 : decode cX6_village 50 = .ok (.aload_n 0, 1) := by decide +kernel
theorem dX6_village_51 : decode cX6_village 51 = .ok (.iconst 0, 1) := by decide +kernel
theorem dX6_village_52 : decode cX6_village 52 = .ok (.putfield 54, 3) := by decide +kernel
theorem dX6_village_55 : decode cX6_village 55 = .ok (.iload_n 1, 1) := by decide +kernel
theorem dX6_village_56 : decode cX6_village 56 = .ok (.ireturn, 1) := by decide +kernel
set_option maxRecDepth 20000 in
theorem ggX6_house_X6_isHouse : GoodIn wsX6_house wsX6_isHouse := goodIn_r _ [7, 1, 13, 14, 15, 16, 17, 18, 19, 20, 21, 22, 23, 24, 25, 26, 27, 28, 29] (by decide +kernel) (by decide +kernel)
set_option maxRecDepth 20000 in
theorem gX6_house_X6_isHouse : GoodIn wsX6_house (wsV RX6 91 RX6 yX6_isHouse wsX6_isHouse) := goodIn_app (goodIn_of _ (by decide +kernel)) ggX6_house_X6_isHouse
set_option maxRecDepth 20000 in
theorem ggX6_house_X4_of : GoodIn wsX6_house wsX4_of := goodIn_r _ [11, 12, 38] (by decide +kernel) (by decide +kernel)
set_option maxRecDepth 20000 in
theorem gX6_house_X4_of_n105 : GoodIn wsX6_house (wsX4_of) := ggX6_house_X4_of
theorem dX6_house_0 : decode cX6_house 0 = .ok (.aload_n 0, 1) := by decide +kernel
theorem dX6_house_1 : decode cX6_house 1 = .ok (.iload_n 1, 1) := by decide +kernel
theorem dX6_house_2 : decode cX6_house 2 = .ok (.invokevirtual 91, 3) := by decide +kernel
theorem dX6_house_5 : decode cX6_house 5 = .ok (.ifCond .eq 13, 3) := by decide +kernel
theorem dX6_house_8 : decode cX6_house 8 = .ok (.iload_n 2, 1) := by decide +kernel
theorem dX6_house_9 : decode cX6_house 9 = .ok (.ifCond .lt 9, 3) := by decide +kernel
theorem dX6_house_12 : decode cX6_house 12 = .ok (.iload_n 2, 1) := by decide +kernel
theorem dX6_house_13 : decode cX6_house 13 = .ok (.bipush 6, 2) := by decide +kernel
theorem dX6_house_15 : decode cX6_house 15 = .ok (.if_icmp .le 5, 3) := by decide +kernel
theorem dX6_house_18 : decode cX6_house 18 = .ok (.iconst (-1), 1) := by decide +kernel
theorem dX6_house_19 : decode cX6_house 19 = .ok (.ireturn, 1) := by decide +kernel
theorem dX6_house_20 : decode cX6_house 20 = .ok (.iload_n 2, 1) := by decide +kernel
theorem dX6_house_21 : decode cX6_house 21 = .ok (.tableswitch 57 4 6 #[27, 37, 47], 27) := by decide +kernel
theorem dX6_house_48 : decode cX6_house 48 = .ok (.aload_n 0, 1) := by decide +kernel
theorem dX6_house_49 : decode cX6_house 49 = .ok (.getfield 19, 3) := by decide +kernel
theorem dX6_house_52 : decode cX6_house 52 = .ok (.getfield 95, 3) := by decide +kernel
theorem dX6_house_55 : decode cX6_house 55 = .ok (.iload_n 1, 1) := by decide +kernel
theorem dX6_house_56 : decode cX6_house 56 = .ok (.iaload, 1) := by decide +kernel
theorem dX6_house_57 : decode cX6_house 57 = .ok (.ireturn, 1) := by decide +kernel
theorem dX6_house_58 : decode cX6_house 58 = .ok (.aload_n 0, 1) := by decide +kernel
theorem dX6_house_59 : decode cX6_house 59 = .ok (.getfield 19, 3) := by decide +kernel
theorem dX6_house_62 : decode cX6_house 62 = .ok (.getfield 98, 3) := by decide +kernel
theorem dX6_house_65 : decode cX6_house 65 = .ok (.iload_n 1, 1) := by decide +kernel
theorem dX6_house_66 : decode cX6_house 66 = .ok (.iaload, 1) := by decide +kernel
theorem dX6_house_67 : decode cX6_house 67 = .ok (.ireturn, 1) := by decide +kernel
theorem dX6_house_68 : decode cX6_house 68 = .ok (.aload_n 0, 1) := by decide +kernel
theorem dX6_house_69 : decode cX6_house 69 = .ok (.getfield 26, 3) := by decide +kernel
theorem dX6_house_72 : decode cX6_house 72 = .ok (.getfield 101, 3) := by decide +kernel
theorem dX6_house_75 : decode cX6_house 75 = .ok (.iload_n 1, 1) := by decide +kernel
theorem dX6_house_76 : decode cX6_house 76 = .ok (.iaload, 1) := by decide +kernel
theorem dX6_house_77 : decode cX6_house 77 = .ok (.ireturn, 1) := by decide +kernel
theorem dX6_house_78 : decode cX6_house 78 = .ok (.aload_n 0, 1) := by decide +kernel
theorem dX6_house_79 : decode cX6_house 79 = .ok (.getfield 26, 3) := by decide +kernel
theorem dX6_house_82 : decode cX6_house 82 = .ok (.getfield 104, 3) := by decide +kernel
theorem dX6_house_85 : decode cX6_house 85 = .ok (.iload_n 1, 1) := by decide +kernel
theorem dX6_house_86 : decode cX6_house 86 = .ok (.iload_n 2, 1) := by decide +kernel
theorem dX6_house_87 : decode cX6_house 87 = .ok (.invokevirtual 105, 3) := by decide +kernel
theorem dX6_house_90 : decode cX6_house 90 = .ok (.ireturn, 1) := by decide +kernel
theorem dX6_told_0 : decode cX6_told 0 = .ok (.iload_n 1, 1) := by decide +kernel
theorem dX6_told_1 : decode cX6_told 1 = .ok (.tableswitch 51 0 2 #[27, 35, 43], 27) := by decide +kernel
theorem dX6_told_28 : decode cX6_told 28 = .ok (.aload_n 0, 1) := by decide +kernel
theorem dX6_told_29 : decode cX6_told 29 = .ok (.getfield 19, 3) := by decide +kernel
theorem dX6_told_32 : decode cX6_told 32 = .ok (.getfield 111, 3) := by decide +kernel
theorem dX6_told_35 : decode cX6_told 35 = .ok (.ireturn, 1) := by decide +kernel
theorem dX6_told_36 : decode cX6_told 36 = .ok (.aload_n 0, 1) := by decide +kernel
theorem dX6_told_37 : decode cX6_told 37 = .ok (.getfield 19, 3) := by decide +kernel
theorem dX6_told_40 : decode cX6_told 40 = .ok (.getfield 114, 3) := by decide +kernel
theorem dX6_told_43 : decode cX6_told 43 = .ok (.ireturn, 1) := by decide +kernel
theorem dX6_told_44 : decode cX6_told 44 = .ok (.aload_n 0, 1) := by decide +kernel
theorem dX6_told_45 : decode cX6_told 45 = .ok (.getfield 19, 3) := by decide +kernel
theorem dX6_told_48 : decode cX6_told 48 = .ok (.getfield 117, 3) := by decide +kernel
theorem dX6_told_51 : decode cX6_told 51 = .ok (.ireturn, 1) := by decide +kernel
theorem dX6_told_52 : decode cX6_told 52 = .ok (.iconst (-1), 1) := by decide +kernel
theorem dX6_told_53 : decode cX6_told 53 = .ok (.ireturn, 1) := by decide +kernel
set_option maxRecDepth 20000 in
theorem ggX6_brings_X6_isHouse : GoodIn wsX6_brings wsX6_isHouse := goodIn_r _ [6, 7, 26, 27, 28, 29, 30, 31, 32, 33, 34, 35, 44, 45, 46, 47, 48, 49, 50] (by decide +kernel) (by decide +kernel)
set_option maxRecDepth 20000 in
theorem gX6_brings_X6_isHouse : GoodIn wsX6_brings (wsV RX6 91 RX6 yX6_isHouse wsX6_isHouse) := goodIn_app (goodIn_of _ (by decide +kernel)) ggX6_brings_X6_isHouse
set_option maxRecDepth 20000 in
theorem ggX6_brings_X6_isSort : GoodIn wsX6_brings wsX6_isSort := goodIn_r _ [10] (by decide +kernel) (by decide +kernel)
set_option maxRecDepth 20000 in
theorem gX6_brings_X6_isSort : GoodIn wsX6_brings (va_wsS RX6 120 yX6_isSort wsX6_isSort) := goodIn_app (goodIn_of _ (by decide +kernel)) ggX6_brings_X6_isSort
set_option maxRecDepth 20000 in
theorem ggX6_brings_X4_of : GoodIn wsX6_brings wsX4_of := goodIn_r _ [14, 15, 51] (by decide +kernel) (by decide +kernel)
set_option maxRecDepth 20000 in
theorem gX6_brings_X4_of_n105 : GoodIn wsX6_brings (wsX4_of) := ggX6_brings_X4_of
set_option maxRecDepth 20000 in
theorem ggX6_brings_X6_dish : GoodIn wsX6_brings wsX6_dish := goodIn_r _ [19, 7, 26, 27, 28, 29, 30, 31, 32, 33, 34, 35, 44, 45, 46, 47, 48, 49, 50] (by decide +kernel) (by decide +kernel)
set_option maxRecDepth 20000 in
theorem gX6_brings_X6_dish : GoodIn wsX6_brings (wsV RX6 127 RX6 yX6_dish wsX6_dish) := goodIn_app (goodIn_of _ (by decide +kernel)) ggX6_brings_X6_dish
set_option maxRecDepth 20000 in
theorem ggX6_brings_X1_carry : GoodIn wsX6_brings wsX1_carry := goodIn_r _ [23, 24, 25, 36, 37, 38, 39, 40, 41, 42, 43] (by decide +kernel) (by decide +kernel)
set_option maxRecDepth 20000 in
theorem gX6_brings_X1_carry_n131 : GoodIn wsX6_brings (wsX1_carry) := ggX6_brings_X1_carry
theorem dX6_brings_0 : decode cX6_brings 0 = .ok (.aload_n 0, 1) := by decide +kernel
theorem dX6_brings_1 : decode cX6_brings 1 = .ok (.iload_n 1, 1) := by decide +kernel
theorem dX6_brings_2 : decode cX6_brings 2 = .ok (.invokevirtual 91, 3) := by decide +kernel
theorem dX6_brings_5 : decode cX6_brings 5 = .ok (.ifCond .eq 10, 3) := by decide +kernel
theorem dX6_brings_8 : decode cX6_brings 8 = .ok (.iload_n 2, 1) := by decide +kernel
theorem dX6_brings_9 : decode cX6_brings 9 = .ok (.invokestatic 120, 3) := by decide +kernel
theorem dX6_brings_12 : decode cX6_brings 12 = .ok (.ifCond .ne 5, 3) := by decide +kernel
theorem dX6_brings_15 : decode cX6_brings 15 = .ok (.iconst (-1), 1) := by decide +kernel
theorem dX6_brings_16 : decode cX6_brings 16 = .ok (.ireturn, 1) := by decide +kernel
theorem dX6_brings_17 : decode cX6_brings 17 = .ok (.aload_n 0, 1) := by decide +kernel
theorem dX6_brings_18 : decode cX6_brings 18 = .ok (.getfield 26, 3) := by decide +kernel
theorem dX6_brings_21 : decode cX6_brings 21 = .ok (.getfield 104, 3) := by decide +kernel
theorem dX6_brings_24 : decode cX6_brings 24 = .ok (.iload_n 1, 1) := by decide +kernel
theorem dX6_brings_25 : decode cX6_brings 25 = .ok (.iload_n 2, 1) := by decide +kernel
theorem dX6_brings_26 : decode cX6_brings 26 = .ok (.invokevirtual 105, 3) := by decide +kernel
theorem dX6_brings_29 : decode cX6_brings 29 = .ok (.ifCond .eq 27, 3) := by decide +kernel
theorem dX6_brings_32 : decode cX6_brings 32 = .ok (.aload_n 0, 1) := by decide +kernel
theorem dX6_brings_33 : decode cX6_brings 33 = .ok (.getfield 26, 3) := by decide +kernel
theorem dX6_brings_36 : decode cX6_brings 36 = .ok (.getfield 101, 3) := by decide +kernel
theorem dX6_brings_39 : decode cX6_brings 39 = .ok (.iload_n 1, 1) := by decide +kernel
theorem dX6_brings_40 : decode cX6_brings 40 = .ok (.iaload, 1) := by decide +kernel
theorem dX6_brings_41 : decode cX6_brings 41 = .ok (.bipush (-9), 2) := by decide +kernel
theorem dX6_brings_43 : decode cX6_brings 43 = .ok (.if_icmp .ne 13, 3) := by decide +kernel
theorem dX6_brings_46 : decode cX6_brings 46 = .ok (.aload_n 0, 1) := by decide +kernel
theorem dX6_brings_47 : decode cX6_brings 47 = .ok (.getfield 26, 3) := by decide +kernel
theorem dX6_brings_50 : decode cX6_brings 50 = .ok (.getfield 123, 3) := by decide +kernel
theorem dX6_brings_53 : decode cX6_brings 53 = .ok (.ifCond .eq 6, 3) := by decide +kernel
theorem dX6_brings_56 : decode cX6_brings 56 = .ok (.bipush (-2), 2) := by decide +kernel
theorem dX6_brings_58 : decode cX6_brings 58 = .ok (.ireturn, 1) := by decide +kernel
theorem dX6_brings_59 : decode cX6_brings 59 = .ok (.aload_n 0, 1) := by decide +kernel
theorem dX6_brings_60 : decode cX6_brings 60 = .ok (.getfield 26, 3) := by decide +kernel
theorem dX6_brings_63 : decode cX6_brings 63 = .ok (.iload_n 1, 1) := by decide +kernel
theorem dX6_brings_64 : decode cX6_brings 64 = .ok (.iload_n 2, 1) := by decide +kernel
theorem dX6_brings_65 : decode cX6_brings 65 = .ok (.aload_n 0, 1) := by decide +kernel
theorem dX6_brings_66 : decode cX6_brings 66 = .ok (.iload_n 1, 1) := by decide +kernel
theorem dX6_brings_67 : decode cX6_brings 67 = .ok (.invokevirtual 127, 3) := by decide +kernel
theorem dX6_brings_70 : decode cX6_brings 70 = .ok (.invokevirtual 131, 3) := by decide +kernel
theorem dX6_brings_73 : decode cX6_brings 73 = .ok (.aload_n 0, 1) := by decide +kernel
theorem dX6_brings_74 : decode cX6_brings 74 = .ok (.iload_n 1, 1) := by decide +kernel
theorem dX6_brings_75 : decode cX6_brings 75 = .ok (.invokevirtual 127, 3) := by decide +kernel
theorem dX6_brings_78 : decode cX6_brings 78 = .ok (.ireturn, 1) := by decide +kernel
set_option maxRecDepth 20000 in
theorem ggX6_evening_X6_chosen : GoodIn wsX6_evening wsX6_chosen := goodIn_r _ [6, 7, 1, 8, 9, 10, 11, 12, 13, 14, 15, 16, 17, 18, 19, 20, 21, 22, 23, 24, 25, 26, 27, 28, 29, 30, 31, 32, 33, 34, 35, 36, 37, 38, 47, 48, 49, 50, 51, 52, 53, 54, 55, 56, 65, 66, 67, 68, 69, 70, 71, 57, 58, 59, 60, 61, 62, 63, 64, 72] (by decide +kernel) (by decide +kernel)
set_option maxRecDepth 20000 in
theorem gX6_evening_X6_chosen : GoodIn wsX6_evening (wsV RX6 135 RX6 yX6_chosen wsX6_chosen) := goodIn_app (goodIn_of _ (by decide +kernel)) ggX6_evening_X6_chosen
set_option maxRecDepth 20000 in
theorem ggX6_evening_X6_dish : GoodIn wsX6_evening wsX6_dish := goodIn_r _ [42, 7, 47, 48, 49, 50, 51, 52, 53, 54, 55, 56, 65, 66, 67, 68, 69, 70, 71] (by decide +kernel) (by decide +kernel)
set_option maxRecDepth 20000 in
theorem gX6_evening_X6_dish : GoodIn wsX6_evening (wsV RX6 127 RX6 yX6_dish wsX6_dish) := goodIn_app (goodIn_of _ (by decide +kernel)) ggX6_evening_X6_dish
set_option maxRecDepth 20000 in
theorem ggX6_evening_X1_carry : GoodIn wsX6_evening wsX1_carry := goodIn_r _ [45, 38, 46, 57, 58, 59, 60, 61, 62, 63, 64] (by decide +kernel) (by decide +kernel)
set_option maxRecDepth 20000 in
theorem gX6_evening_X1_carry_n131 : GoodIn wsX6_evening (wsX1_carry) := ggX6_evening_X1_carry
theorem dX6_evening_0 : decode cX6_evening 0 = .ok (.aload_n 0, 1) := by decide +kernel
theorem dX6_evening_1 : decode cX6_evening 1 = .ok (.getfield 26, 3) := by decide +kernel
theorem dX6_evening_4 : decode cX6_evening 4 = .ok (.getfield 123, 3) := by decide +kernel
theorem dX6_evening_7 : decode cX6_evening 7 = .ok (.ifCond .eq 6, 3) := by decide +kernel
theorem dX6_evening_10 : decode cX6_evening 10 = .ok (.bipush (-2), 2) := by decide +kernel
theorem dX6_evening_12 : decode cX6_evening 12 = .ok (.ireturn, 1) := by decide +kernel
theorem dX6_evening_13 : decode cX6_evening 13 = .ok (.iconst 0, 1) := by decide +kernel
theorem dX6_evening_14 : decode cX6_evening 14 = .ok (.istore_n 1, 1) := by decide +kernel
theorem dX6_evening_15 : decode cX6_evening 15 = .ok (.iconst 0, 1) := by decide +kernel
theorem dX6_evening_16 : decode cX6_evening 16 = .ok (.istore_n 2, 1) := by decide +kernel
theorem dX6_evening_17 : decode cX6_evening 17 = .ok (.iload_n 2, 1) := by decide +kernel
theorem dX6_evening_18 : decode cX6_evening 18 = .ok (.bipush 6, 2) := by decide +kernel
theorem dX6_evening_20 : decode cX6_evening 20 = .ok (.if_icmp .ge 57, 3) := by decide +kernel
theorem dX6_evening_23 : decode cX6_evening 23 = .ok (.aload_n 0, 1) := by decide +kernel
theorem dX6_evening_24 : decode cX6_evening 24 = .ok (.getfield 26, 3) := by decide +kernel
theorem dX6_evening_27 : decode cX6_evening 27 = .ok (.getfield 101, 3) := by decide +kernel
theorem dX6_evening_30 : decode cX6_evening 30 = .ok (.iload_n 2, 1) := by decide +kernel
theorem dX6_evening_31 : decode cX6_evening 31 = .ok (.iaload, 1) := by decide +kernel
theorem dX6_evening_32 : decode cX6_evening 32 = .ok (.bipush (-9), 2) := by decide +kernel
theorem dX6_evening_34 : decode cX6_evening 34 = .ok (.if_icmp .ne 11, 3) := by decide +kernel
theorem dX6_evening_37 : decode cX6_evening 37 = .ok (.aload_n 0, 1) := by decide +kernel
theorem dX6_evening_38 : decode cX6_evening 38 = .ok (.iload_n 2, 1) := by decide +kernel
theorem dX6_evening_39 : decode cX6_evening 39 = .ok (.invokevirtual 135, 3) := by decide +kernel
theorem dX6_evening_42 : decode cX6_evening 42 = .ok (.goto 5, 3) := by decide +kernel
theorem dX6_evening_45 : decode cX6_evening 45 = .ok (.bipush (-9), 2) := by decide +kernel
theorem dX6_evening_47 : decode cX6_evening 47 = .ok (.istore_n 3, 1) := by decide +kernel
theorem dX6_evening_48 : decode cX6_evening 48 = .ok (.iload_n 3, 1) := by decide +kernel
theorem dX6_evening_49 : decode cX6_evening 49 = .ok (.bipush (-9), 2) := by decide +kernel
theorem dX6_evening_51 : decode cX6_evening 51 = .ok (.if_icmp .eq 20, 3) := by decide +kernel
theorem dX6_evening_54 : decode cX6_evening 54 = .ok (.aload_n 0, 1) := by decide +kernel
theorem dX6_evening_55 : decode cX6_evening 55 = .ok (.getfield 26, 3) := by decide +kernel
theorem dX6_evening_58 : decode cX6_evening 58 = .ok (.iload_n 2, 1) := by decide +kernel
theorem dX6_evening_59 : decode cX6_evening 59 = .ok (.iload_n 3, 1) := by decide +kernel
theorem dX6_evening_60 : decode cX6_evening 60 = .ok (.aload_n 0, 1) := by decide +kernel
theorem dX6_evening_61 : decode cX6_evening 61 = .ok (.iload_n 2, 1) := by decide +kernel
theorem dX6_evening_62 : decode cX6_evening 62 = .ok (.invokevirtual 127, 3) := by decide +kernel
theorem dX6_evening_65 : decode cX6_evening 65 = .ok (.invokevirtual 131, 3) := by decide +kernel
theorem dX6_evening_68 : decode cX6_evening 68 = .ok (.iinc 1 1, 3) := by decide +kernel
theorem dX6_evening_71 : decode cX6_evening 71 = .ok (.iinc 2 1, 3) := by decide +kernel
theorem dX6_evening_74 : decode cX6_evening 74 = .ok (.goto (-57), 3) := by decide +kernel
theorem dX6_evening_77 : decode cX6_evening 77 = .ok (.iload_n 1, 1) := by decide +kernel
theorem dX6_evening_78 : decode cX6_evening 78 = .ok (.ireturn, 1) := by decide +kernel
set_option maxRecDepth 20000 in
theorem ggX6_table_X6_isSort : GoodIn wsX6_table wsX6_isSort := goodIn_r _ [5] (by decide +kernel) (by decide +kernel)
set_option maxRecDepth 20000 in
theorem gX6_table_X6_isSort : GoodIn wsX6_table (va_wsS RX6 120 yX6_isSort wsX6_isSort) := goodIn_app (goodIn_of _ (by decide +kernel)) ggX6_table_X6_isSort
set_option maxRecDepth 20000 in
theorem ggX6_table_X6_spoonsBrought : GoodIn wsX6_table wsX6_spoonsBrought := goodIn_r _ [9, 1, 10, 11, 12, 4, 13, 14, 20, 21, 22, 23, 24, 25, 26, 27, 28, 29, 30, 31, 32, 33, 34, 35, 36, 37, 38, 39, 40, 41, 42, 43, 44] (by decide +kernel) (by decide +kernel)
set_option maxRecDepth 20000 in
theorem gX6_table_X6_spoonsBrought : GoodIn wsX6_table (wsV RX6 138 RX6 yX6_spoonsBrought wsX6_spoonsBrought) := goodIn_app (goodIn_of _ (by decide +kernel)) ggX6_table_X6_spoonsBrought
set_option maxRecDepth 20000 in
theorem ggX6_table_X1_bringersOf : GoodIn wsX6_table wsX1_bringersOf := goodIn_r _ [18, 19, 30, 31, 32, 33, 34, 35, 36, 37] (by decide +kernel) (by decide +kernel)
set_option maxRecDepth 20000 in
theorem gX6_table_X1_bringersOf_n144 : GoodIn wsX6_table (wsX1_bringersOf) := ggX6_table_X1_bringersOf
theorem dX6_table_0 : decode cX6_table 0 = .ok (.iload_n 1, 1) := by decide +kernel
theorem dX6_table_1 : decode cX6_table 1 = .ok (.invokestatic 120, 3) := by decide +kernel
theorem dX6_table_4 : decode cX6_table 4 = .ok (.ifCond .ne 5, 3) := by decide +kernel
theorem dX6_table_7 : decode cX6_table 7 = .ok (.iconst (-1), 1) := by decide +kernel
theorem dX6_table_8 : decode cX6_table 8 = .ok (.ireturn, 1) := by decide +kernel
theorem dX6_table_9 : decode cX6_table 9 = .ok (.iload_n 2, 1) := by decide +kernel
theorem dX6_table_10 : decode cX6_table 10 = .ok (.tableswitch 51 0 2 #[26, 32, 42], 26) := by decide +kernel
theorem dX6_table_36 : decode cX6_table 36 = .ok (.aload_n 0, 1) := by decide +kernel
theorem dX6_table_37 : decode cX6_table 37 = .ok (.iload_n 1, 1) := by decide +kernel
theorem dX6_table_38 : decode cX6_table 38 = .ok (.invokevirtual 138, 3) := by decide +kernel
theorem dX6_table_41 : decode cX6_table 41 = .ok (.ireturn, 1) := by decide +kernel
theorem dX6_table_42 : decode cX6_table 42 = .ok (.aload_n 0, 1) := by decide +kernel
theorem dX6_table_43 : decode cX6_table 43 = .ok (.getfield 26, 3) := by decide +kernel
theorem dX6_table_46 : decode cX6_table 46 = .ok (.getfield 141, 3) := by decide +kernel
theorem dX6_table_49 : decode cX6_table 49 = .ok (.iload_n 1, 1) := by decide +kernel
theorem dX6_table_50 : decode cX6_table 50 = .ok (.iaload, 1) := by decide +kernel
theorem dX6_table_51 : decode cX6_table 51 = .ok (.ireturn, 1) := by decide +kernel
theorem dX6_table_52 : decode cX6_table 52 = .ok (.aload_n 0, 1) := by decide +kernel
theorem dX6_table_53 : decode cX6_table 53 = .ok (.getfield 26, 3) := by decide +kernel
theorem dX6_table_56 : decode cX6_table 56 = .ok (.iload_n 1, 1) := by decide +kernel
theorem dX6_table_57 : decode cX6_table 57 = .ok (.invokevirtual 144, 3) := by decide +kernel
theorem dX6_table_60 : decode cX6_table 60 = .ok (.ireturn, 1) := by decide +kernel
theorem dX6_table_61 : decode cX6_table 61 = .ok (.iconst (-1), 1) := by decide +kernel
theorem dX6_table_62 : decode cX6_table 62 = .ok (.ireturn, 1) := by decide +kernel
set_option maxRecDepth 20000 in
theorem ggX6_eat_X1_feed : GoodIn wsX6_eat wsX1_feed := goodIn_r _ [6, 7, 8, 9, 10, 11, 4, 12, 23, 24, 25, 26, 27, 28, 29, 30] (by decide +kernel) (by decide +kernel)
set_option maxRecDepth 20000 in
theorem gX6_eat_X1_feed_n147 : GoodIn wsX6_eat (wsX1_feed) := ggX6_eat_X1_feed
theorem dX6_eat_0 : decode cX6_eat 0 = .ok (.iload_n 1, 1) := by decide +kernel
theorem dX6_eat_1 : decode cX6_eat 1 = .ok (.ifCond .eq 10, 3) := by decide +kernel
theorem dX6_eat_4 : decode cX6_eat 4 = .ok (.iload_n 1, 1) := by decide +kernel
theorem dX6_eat_5 : decode cX6_eat 5 = .ok (.iconst 1, 1) := by decide +kernel
theorem dX6_eat_6 : decode cX6_eat 6 = .ok (.if_icmp .eq 5, 3) := by decide +kernel
theorem dX6_eat_9 : decode cX6_eat 9 = .ok (.iconst (-1), 1) := by decide +kernel
theorem dX6_eat_10 : decode cX6_eat 10 = .ok (.ireturn, 1) := by decide +kernel
theorem dX6_eat_11 : decode cX6_eat 11 = .ok (.aload_n 0, 1) := by decide +kernel
theorem dX6_eat_12 : decode cX6_eat 12 = .ok (.getfield 26, 3) := by decide +kernel
theorem dX6_eat_15 : decode cX6_eat 15 = .ok (.getfield 123, 3) := by decide +kernel
theorem dX6_eat_18 : decode cX6_eat 18 = .ok (.ifCond .eq 6, 3) := by decide +kernel
theorem dX6_eat_21 : decode cX6_eat 21 = .ok (.bipush (-2), 2) := by decide +kernel
theorem dX6_eat_23 : decode cX6_eat 23 = .ok (.ireturn, 1) := by decide +kernel
theorem dX6_eat_24 : decode cX6_eat 24 = .ok (.iconst 0, 1) := by decide +kernel
theorem dX6_eat_25 : decode cX6_eat 25 = .ok (.istore_n 2, 1) := by decide +kernel
theorem dX6_eat_26 : decode cX6_eat 26 = .ok (.iconst 0, 1) := by decide +kernel
theorem dX6_eat_27 : decode cX6_eat 27 = .ok (.istore_n 3, 1) := by decide +kernel
theorem dX6_eat_28 : decode cX6_eat 28 = .ok (.iload_n 3, 1) := by decide +kernel
theorem dX6_eat_29 : decode cX6_eat 29 = .ok (.bipush 6, 2) := by decide +kernel
theorem dX6_eat_31 : decode cX6_eat 31 = .ok (.if_icmp .ge 54, 3) := by decide +kernel
theorem dX6_eat_34 : decode cX6_eat 34 = .ok (.iload_n 1, 1) := by decide +kernel
theorem dX6_eat_35 : decode cX6_eat 35 = .ok (.ifCond .ne 7, 3) := by decide +kernel
theorem dX6_eat_38 : decode cX6_eat 38 = .ok (.iload_n 3, 1) := by decide +kernel
theorem dX6_eat_39 : decode cX6_eat 39 = .ok (.goto 6, 3) := by decide +kernel
theorem dX6_eat_42 : decode cX6_eat 42 = .ok (.iconst 5, 1) := by decide +kernel
theorem dX6_eat_43 : decode cX6_eat 43 = .ok (.iload_n 3, 1) := by decide +kernel
theorem dX6_eat_44 : decode cX6_eat 44 = .ok (.isub, 1) := by decide +kernel
theorem dX6_eat_45 : decode cX6_eat 45 = .ok (.istore 4, 2) := by decide +kernel
theorem dX6_eat_47 : decode cX6_eat 47 = .ok (.iload_n 2, 1) := by decide +kernel
theorem dX6_eat_48 : decode cX6_eat 48 = .ok (.aload_n 0, 1) := by decide +kernel
theorem dX6_eat_49 : decode cX6_eat 49 = .ok (.getfield 26, 3) := by decide +kernel
theorem dX6_eat_52 : decode cX6_eat 52 = .ok (.iload 4, 2) := by decide +kernel
theorem dX6_eat_54 : decode cX6_eat 54 = .ok (.aload_n 0, 1) := by decide +kernel
theorem dX6_eat_55 : decode cX6_eat 55 = .ok (.getfield 19, 3) := by decide +kernel
theorem dX6_eat_58 : decode cX6_eat 58 = .ok (.getfield 95, 3) := by decide +kernel
theorem dX6_eat_61 : decode cX6_eat 61 = .ok (.iload 4, 2) := by decide +kernel
theorem dX6_eat_63 : decode cX6_eat 63 = .ok (.iaload, 1) := by decide +kernel
theorem dX6_eat_64 : decode cX6_eat 64 = .ok (.aload_n 0, 1) := by decide +kernel
theorem dX6_eat_65 : decode cX6_eat 65 = .ok (.getfield 19, 3) := by decide +kernel
theorem dX6_eat_68 : decode cX6_eat 68 = .ok (.getfield 98, 3) := by decide +kernel
theorem dX6_eat_71 : decode cX6_eat 71 = .ok (.iload 4, 2) := by decide +kernel
theorem dX6_eat_73 : decode cX6_eat 73 = .ok (.iaload, 1) := by decide +kernel
theorem dX6_eat_74 : decode cX6_eat 74 = .ok (.invokevirtual 147, 3) := by decide +kernel
theorem dX6_eat_77 : decode cX6_eat 77 = .ok (.iadd, 1) := by decide +kernel
theorem dX6_eat_78 : decode cX6_eat 78 = .ok (.istore_n 2, 1) := by decide +kernel
theorem dX6_eat_79 : decode cX6_eat 79 = .ok (.iinc 3 1, 3) := by decide +kernel
theorem dX6_eat_82 : decode cX6_eat 82 = .ok (.goto (-54), 3) := by decide +kernel
theorem dX6_eat_85 : decode cX6_eat 85 = .ok (.aload_n 0, 1) := by decide +kernel
theorem dX6_eat_86 : decode cX6_eat 86 = .ok (.getfield 26, 3) := by decide +kernel
theorem dX6_eat_89 : decode cX6_eat 89 = .ok (.iconst 1, 1) := by decide +kernel
theorem dX6_eat_90 : decode cX6_eat 90 = .ok (.putfield 123, 3) := by decide +kernel
theorem dX6_eat_93 : decode cX6_eat 93 = .ok (.iload_n 2, 1) := by decide +kernel
theorem dX6_eat_94 : decode cX6_eat 94 = .ok (.ireturn, 1) := by decide +kernel
set_option maxRecDepth 20000 in
theorem ggX6_ate_X6_isHouse : GoodIn wsX6_ate wsX6_isHouse := goodIn_r _ [6, 7, 16, 17, 18, 19, 20, 21, 22, 23, 24, 25, 26, 27, 28, 29, 30, 31, 32] (by decide +kernel) (by decide +kernel)
set_option maxRecDepth 20000 in
theorem gX6_ate_X6_isHouse : GoodIn wsX6_ate (wsV RX6 91 RX6 yX6_isHouse wsX6_isHouse) := goodIn_app (goodIn_of _ (by decide +kernel)) ggX6_ate_X6_isHouse
set_option maxRecDepth 20000 in
theorem ggX6_ate_X6_isSort : GoodIn wsX6_ate wsX6_isSort := goodIn_r _ [10] (by decide +kernel) (by decide +kernel)
set_option maxRecDepth 20000 in
theorem gX6_ate_X6_isSort : GoodIn wsX6_ate (va_wsS RX6 120 yX6_isSort wsX6_isSort) := goodIn_app (goodIn_of _ (by decide +kernel)) ggX6_ate_X6_isSort
set_option maxRecDepth 20000 in
theorem ggX6_ate_X1_spoonsOf : GoodIn wsX6_ate wsX1_spoonsOf := goodIn_r _ [14, 15, 33, 34, 35, 36, 37, 38, 39, 40] (by decide +kernel) (by decide +kernel)
set_option maxRecDepth 20000 in
theorem gX6_ate_X1_spoonsOf_n151 : GoodIn wsX6_ate (wsX1_spoonsOf) := ggX6_ate_X1_spoonsOf
theorem dX6_ate_0 : decode cX6_ate 0 = .ok (.aload_n 0, 1) := by decide +kernel
theorem dX6_ate_1 : decode cX6_ate 1 = .ok (.iload_n 1, 1) := by decide +kernel
theorem dX6_ate_2 : decode cX6_ate 2 = .ok (.invokevirtual 91, 3) := by decide +kernel
theorem dX6_ate_5 : decode cX6_ate 5 = .ok (.ifCond .eq 10, 3) := by decide +kernel
theorem dX6_ate_8 : decode cX6_ate 8 = .ok (.iload_n 2, 1) := by decide +kernel
theorem dX6_ate_9 : decode cX6_ate 9 = .ok (.invokestatic 120, 3) := by decide +kernel
theorem dX6_ate_12 : decode cX6_ate 12 = .ok (.ifCond .ne 5, 3) := by decide +kernel
theorem dX6_ate_15 : decode cX6_ate 15 = .ok (.iconst (-1), 1) := by decide +kernel
theorem dX6_ate_16 : decode cX6_ate 16 = .ok (.ireturn, 1) := by decide +kernel
theorem dX6_ate_17 : decode cX6_ate 17 = .ok (.aload_n 0, 1) := by decide +kernel
theorem dX6_ate_18 : decode cX6_ate 18 = .ok (.getfield 26, 3) := by decide +kernel
theorem dX6_ate_21 : decode cX6_ate 21 = .ok (.iload_n 1, 1) := by decide +kernel
theorem dX6_ate_22 : decode cX6_ate 22 = .ok (.iload_n 2, 1) := by decide +kernel
theorem dX6_ate_23 : decode cX6_ate 23 = .ok (.invokevirtual 151, 3) := by decide +kernel
theorem dX6_ate_26 : decode cX6_ate 26 = .ok (.ireturn, 1) := by decide +kernel
set_option maxRecDepth 20000 in
theorem ggX6_hungry_X6_isHouse : GoodIn wsX6_hungry wsX6_isHouse := goodIn_r _ [7, 2, 17, 18, 19, 20, 21, 22, 23, 24, 25, 26, 35, 36, 37, 38, 39, 40, 41] (by decide +kernel) (by decide +kernel)
set_option maxRecDepth 20000 in
theorem gX6_hungry_X6_isHouse : GoodIn wsX6_hungry (wsV RX6 91 RX6 yX6_isHouse wsX6_isHouse) := goodIn_app (goodIn_of _ (by decide +kernel)) ggX6_hungry_X6_isHouse
set_option maxRecDepth 20000 in
theorem ggX6_hungry_X1_allSpoonsOf : GoodIn wsX6_hungry wsX1_allSpoonsOf := goodIn_r _ [11, 12, 13, 14, 9, 15, 16, 27, 28, 29, 30, 31, 32, 33, 34] (by decide +kernel) (by decide +kernel)
set_option maxRecDepth 20000 in
theorem gX6_hungry_X1_allSpoonsOf_n154 : GoodIn wsX6_hungry (wsX1_allSpoonsOf) := ggX6_hungry_X1_allSpoonsOf
theorem dX6_hungry_0 : decode cX6_hungry 0 = .ok (.aload_n 0, 1) := by decide +kernel
theorem dX6_hungry_1 : decode cX6_hungry 1 = .ok (.iload_n 1, 1) := by decide +kernel
theorem dX6_hungry_2 : decode cX6_hungry 2 = .ok (.invokevirtual 91, 3) := by decide +kernel
theorem dX6_hungry_5 : decode cX6_hungry 5 = .ok (.ifCond .ne 5, 3) := by decide +kernel
theorem dX6_hungry_8 : decode cX6_hungry 8 = .ok (.iconst (-1), 1) := by decide +kernel
theorem dX6_hungry_9 : decode cX6_hungry 9 = .ok (.ireturn, 1) := by decide +kernel
theorem dX6_hungry_10 : decode cX6_hungry 10 = .ok (.aload_n 0, 1) := by decide +kernel
theorem dX6_hungry_11 : decode cX6_hungry 11 = .ok (.getfield 26, 3) := by decide +kernel
theorem dX6_hungry_14 : decode cX6_hungry 14 = .ok (.getfield 123, 3) := by decide +kernel
theorem dX6_hungry_17 : decode cX6_hungry 17 = .ok (.ifCond .ne 6, 3) := by decide +kernel
theorem dX6_hungry_20 : decode cX6_hungry 20 = .ok (.bipush (-2), 2) := by decide +kernel
theorem dX6_hungry_22 : decode cX6_hungry 22 = .ok (.ireturn, 1) := by decide +kernel
theorem dX6_hungry_23 : decode cX6_hungry 23 = .ok (.aload_n 0, 1) := by decide +kernel
theorem dX6_hungry_24 : decode cX6_hungry 24 = .ok (.getfield 19, 3) := by decide +kernel
theorem dX6_hungry_27 : decode cX6_hungry 27 = .ok (.getfield 95, 3) := by decide +kernel
theorem dX6_hungry_30 : decode cX6_hungry 30 = .ok (.iload_n 1, 1) := by decide +kernel
theorem dX6_hungry_31 : decode cX6_hungry 31 = .ok (.iaload, 1) := by decide +kernel
theorem dX6_hungry_32 : decode cX6_hungry 32 = .ok (.aload_n 0, 1) := by decide +kernel
theorem dX6_hungry_33 : decode cX6_hungry 33 = .ok (.getfield 26, 3) := by decide +kernel
theorem dX6_hungry_36 : decode cX6_hungry 36 = .ok (.iload_n 1, 1) := by decide +kernel
theorem dX6_hungry_37 : decode cX6_hungry 37 = .ok (.invokevirtual 154, 3) := by decide +kernel
theorem dX6_hungry_40 : decode cX6_hungry 40 = .ok (.isub, 1) := by decide +kernel
theorem dX6_hungry_41 : decode cX6_hungry 41 = .ok (.ireturn, 1) := by decide +kernel
set_option maxRecDepth 20000 in
theorem ggX6_year_X1_bringersOf : GoodIn wsX6_year wsX1_bringersOf := goodIn_r _ [6, 7, 45, 46, 47, 48, 49, 50, 51, 52] (by decide +kernel) (by decide +kernel)
set_option maxRecDepth 20000 in
theorem gX6_year_X1_bringersOf_n144 : GoodIn wsX6_year (wsX1_bringersOf) := ggX6_year_X1_bringersOf
set_option maxRecDepth 20000 in
theorem ggX6_year_X4_pass : GoodIn wsX6_year wsX4_pass := goodIn_r _ [11, 12, 13, 14, 15, 16, 17, 18, 19, 20, 21, 9, 22, 23, 24, 25, 26, 27, 60] (by decide +kernel) (by decide +kernel)
set_option maxRecDepth 20000 in
theorem gX6_year_X4_pass_n157 : GoodIn wsX6_year (wsX4_pass) := ggX6_year_X4_pass
set_option maxRecDepth 20000 in
theorem ggX6_year_X1_clearTable : GoodIn wsX6_year wsX1_clearTable := goodIn_r _ [30, 7, 31, 32, 33, 34, 45, 46, 47, 48, 49, 50, 51, 52] (by decide +kernel) (by decide +kernel)
set_option maxRecDepth 20000 in
theorem gX6_year_X1_clearTable_n160 : GoodIn wsX6_year (wsX1_clearTable) := ggX6_year_X1_clearTable
theorem dX6_year_0 : decode cX6_year 0 = .ok (.iconst 0, 1) := by decide +kernel
theorem dX6_year_1 : decode cX6_year 1 = .ok (.istore_n 1, 1) := by decide +kernel
theorem dX6_year_2 : decode cX6_year 2 = .ok (.iload_n 1, 1) := by decide +kernel
theorem dX6_year_3 : decode cX6_year 3 = .ok (.iconst 4, 1) := by decide +kernel
theorem dX6_year_4 : decode cX6_year 4 = .ok (.if_icmp .ge 35, 3) := by decide +kernel
theorem dX6_year_7 : decode cX6_year 7 = .ok (.aload_n 0, 1) := by decide +kernel
theorem dX6_year_8 : decode cX6_year 8 = .ok (.getfield 26, 3) := by decide +kernel
theorem dX6_year_11 : decode cX6_year 11 = .ok (.getfield 104, 3) := by decide +kernel
theorem dX6_year_14 : decode cX6_year 14 = .ok (.iload_n 1, 1) := by decide +kernel
theorem dX6_year_15 : decode cX6_year 15 = .ok (.aload_n 0, 1) := by decide +kernel
theorem dX6_year_16 : decode cX6_year 16 = .ok (.getfield 26, 3) := by decide +kernel
theorem dX6_year_19 : decode cX6_year 19 = .ok (.iload_n 1, 1) := by decide +kernel
theorem dX6_year_20 : decode cX6_year 20 = .ok (.invokevirtual 144, 3) := by decide +kernel
theorem dX6_year_23 : decode cX6_year 23 = .ok (.aload_n 0, 1) := by decide +kernel
theorem dX6_year_24 : decode cX6_year 24 = .ok (.getfield 19, 3) := by decide +kernel
theorem dX6_year_27 : decode cX6_year 27 = .ok (.getfield 117, 3) := by decide +kernel
theorem dX6_year_30 : decode cX6_year 30 = .ok (.invokevirtual 157, 3) := by decide +kernel
theorem dX6_year_33 : decode cX6_year 33 = .ok (.iinc 1 1, 3) := by decide +kernel
theorem dX6_year_36 : decode cX6_year 36 = .ok (.goto (-34), 3) := by decide +kernel
theorem dX6_year_39 : decode cX6_year 39 = .ok (.aload_n 0, 1) := by decide +kernel
theorem dX6_year_40 : decode cX6_year 40 = .ok (.getfield 26, 3) := by decide +kernel
theorem dX6_year_43 : decode cX6_year 43 = .ok (.invokevirtual 160, 3) := by decide +kernel
theorem dX6_year_46 : decode cX6_year 46 = .ok (.aload_n 0, 1) := by decide +kernel
theorem dX6_year_47 : decode cX6_year 47 = .ok (.getfield 26, 3) := by decide +kernel
theorem dX6_year_50 : decode cX6_year 50 = .ok (.dup, 1) := by decide +kernel
theorem dX6_year_51 : decode cX6_year 51 = .ok (.getfield 163, 3) := by decide +kernel
theorem dX6_year_54 : decode cX6_year 54 = .ok (.iconst 1, 1) := by decide +kernel
theorem dX6_year_55 : decode cX6_year 55 = .ok (.iadd, 1) := by decide +kernel
theorem dX6_year_56 : decode cX6_year 56 = .ok (.putfield 163, 3) := by decide +kernel
theorem dX6_year_59 : decode cX6_year 59 = .ok (.aload_n 0, 1) := by decide +kernel
theorem dX6_year_60 : decode cX6_year 60 = .ok (.getfield 26, 3) := by decide +kernel
theorem dX6_year_63 : decode cX6_year 63 = .ok (.getfield 163, 3) := by decide +kernel
theorem dX6_year_66 : decode cX6_year 66 = .ok (.ireturn, 1) := by decide +kernel
theorem dX6_lot_0 : decode cX6_lot 0 = .ok (.aload_n 0, 1) := by decide +kernel
theorem dX6_lot_1 : decode cX6_lot 1 = .ok (.getfield 26, 3) := by decide +kernel
theorem dX6_lot_4 : decode cX6_lot 4 = .ok (.getfield 62, 3) := by decide +kernel
theorem dX6_lot_7 : decode cX6_lot 7 = .ok (.istore_n 2, 1) := by decide +kernel
theorem dX6_lot_8 : decode cX6_lot 8 = .ok (.aload_n 0, 1) := by decide +kernel
theorem dX6_lot_9 : decode cX6_lot 9 = .ok (.getfield 26, 3) := by decide +kernel
theorem dX6_lot_12 : decode cX6_lot 12 = .ok (.iload_n 1, 1) := by decide +kernel
theorem dX6_lot_13 : decode cX6_lot 13 = .ok (.putfield 62, 3) := by decide +kernel
theorem dX6_lot_16 : decode cX6_lot 16 = .ok (.iload_n 2, 1) := by decide +kernel
theorem dX6_lot_17 : decode cX6_lot 17 = .ok (.ireturn, 1) := by decide +kernel
set_option maxRecDepth 20000 in
theorem ggX6_odds_X6_isSort : GoodIn wsX6_odds wsX6_isSort := goodIn_r _ [7] (by decide +kernel) (by decide +kernel)
set_option maxRecDepth 20000 in
theorem gX6_odds_X6_isSort : GoodIn wsX6_odds (va_wsS RX6 120 yX6_isSort wsX6_isSort) := goodIn_app (goodIn_of _ (by decide +kernel)) ggX6_odds_X6_isSort
set_option maxRecDepth 20000 in
theorem ggX6_odds_X6_isHalf : GoodIn wsX6_odds wsX6_isHalf := goodIn_r _ [10] (by decide +kernel) (by decide +kernel)
set_option maxRecDepth 20000 in
theorem gX6_odds_X6_isHalf : GoodIn wsX6_odds (va_wsS RX6 166 yX6_isHalf wsX6_isHalf) := goodIn_app (goodIn_of _ (by decide +kernel)) ggX6_odds_X6_isHalf
set_option maxRecDepth 20000 in
theorem ggX6_odds_X0_countBringers : GoodIn wsX6_odds wsX0_countBringers := goodIn_r _ [14, 15, 16, 17, 18, 19, 20, 21, 22, 23, 24, 25, 26, 27, 12, 28, 56, 57, 58, 59, 60, 61, 62] (by decide +kernel) (by decide +kernel)
set_option maxRecDepth 20000 in
theorem gX6_odds_X0_countBringers_n171 : GoodIn wsX6_odds (wsX0_countBringers) := ggX6_odds_X0_countBringers
set_option maxRecDepth 20000 in
theorem ggX6_odds_X0_waysFrom : GoodIn wsX6_odds wsX0_waysFrom := goodIn_r _ [31, 15, 56, 57, 58, 59, 60, 61] (by decide +kernel) (by decide +kernel)
set_option maxRecDepth 20000 in
theorem gX6_odds_X0_waysFrom_n175 : GoodIn wsX6_odds (wsX0_waysFrom) := ggX6_odds_X0_waysFrom
set_option maxRecDepth 20000 in
theorem ggX6_odds_X6_inLeastTerms : GoodIn wsX6_odds wsX6_inLeastTerms := goodIn_r _ [34, 35, 36, 6, 37] (by decide +kernel) (by decide +kernel)
set_option maxRecDepth 20000 in
theorem gX6_odds_X6_inLeastTerms : GoodIn wsX6_odds (va_wsS RX6 179 yX6_inLeastTerms wsX6_inLeastTerms) := goodIn_app (goodIn_of _ (by decide +kernel)) ggX6_odds_X6_inLeastTerms
theorem dX6_odds_0 : decode cX6_odds 0 = .ok (.iload_n 1, 1) := by decide +kernel
theorem dX6_odds_1 : decode cX6_odds 1 = .ok (.invokestatic 120, 3) := by decide +kernel
theorem dX6_odds_4 : decode cX6_odds 4 = .ok (.ifCond .eq 20, 3) := by decide +kernel
theorem dX6_odds_7 : decode cX6_odds 7 = .ok (.iload_n 2, 1) := by decide +kernel
theorem dX6_odds_8 : decode cX6_odds 8 = .ok (.ifCond .lt 16, 3) := by decide +kernel
theorem dX6_odds_11 : decode cX6_odds 11 = .ok (.iload_n 2, 1) := by decide +kernel
theorem dX6_odds_12 : decode cX6_odds 12 = .ok (.bipush 6, 2) := by decide +kernel
theorem dX6_odds_14 : decode cX6_odds 14 = .ok (.if_icmp .gt 10, 3) := by decide +kernel
theorem dX6_odds_17 : decode cX6_odds 17 = .ok (.iload_n 3, 1) := by decide +kernel
theorem dX6_odds_18 : decode cX6_odds 18 = .ok (.invokestatic 166, 3) := by decide +kernel
theorem dX6_odds_21 : decode cX6_odds 21 = .ok (.ifCond .ne 7, 3) := by decide +kernel
theorem dX6_odds_24 : decode cX6_odds 24 = .ok (.ldc2_w 169, 3) := by decide +kernel
theorem dX6_odds_27 : decode cX6_odds 27 = .ok (.lreturn, 1) := by decide +kernel
theorem dX6_odds_28 : decode cX6_odds 28 = .ok (.aload_n 0, 1) := by decide +kernel
theorem dX6_odds_29 : decode cX6_odds 29 = .ok (.getfield 39, 3) := by decide +kernel
theorem dX6_odds_32 : decode cX6_odds 32 = .ok (.aload_n 0, 1) := by decide +kernel
theorem dX6_odds_33 : decode cX6_odds 33 = .ok (.getfield 26, 3) := by decide +kernel
theorem dX6_odds_36 : decode cX6_odds 36 = .ok (.getfield 104, 3) := by decide +kernel
theorem dX6_odds_39 : decode cX6_odds 39 = .ok (.iload_n 1, 1) := by decide +kernel
theorem dX6_odds_40 : decode cX6_odds 40 = .ok (.invokevirtual 171, 3) := by decide +kernel
theorem dX6_odds_43 : decode cX6_odds 43 = .ok (.aload_n 0, 1) := by decide +kernel
theorem dX6_odds_44 : decode cX6_odds 44 = .ok (.getfield 39, 3) := by decide +kernel
theorem dX6_odds_47 : decode cX6_odds 47 = .ok (.iload_n 2, 1) := by decide +kernel
theorem dX6_odds_48 : decode cX6_odds 48 = .ok (.invokevirtual 175, 3) := by decide +kernel
theorem dX6_odds_51 : decode cX6_odds 51 = .ok (.aload_n 0, 1) := by decide +kernel
theorem dX6_odds_52 : decode cX6_odds 52 = .ok (.getfield 39, 3) := by decide +kernel
theorem dX6_odds_55 : decode cX6_odds 55 = .ok (.iconst 0, 1) := by decide +kernel
theorem dX6_odds_56 : decode cX6_odds 56 = .ok (.invokevirtual 175, 3) := by decide +kernel
theorem dX6_odds_59 : decode cX6_odds 59 = .ok (.iload_n 3, 1) := by decide +kernel
theorem dX6_odds_60 : decode cX6_odds 60 = .ok (.invokestatic 179, 3) := by decide +kernel
theorem dX6_odds_63 : decode cX6_odds 63 = .ok (.lreturn, 1) := by decide +kernel
