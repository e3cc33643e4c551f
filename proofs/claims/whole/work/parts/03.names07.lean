theorem dX7_number_22 : decode cX7_number 22 = .ok (.goto 4, 3) := by decide +kernel
theorem dX7_number_25 : decode cX7_number 25 = .ok (.iconst 0, 1) := by decide +kernel
theorem dX7_number_26 : decode cX7_number 26 = .ok (.invokevirtual 107, 3) := by decide +kernel
theorem dX7_number_29 : decode cX7_number 29 = .ok (.ireturn, 1) := by decide +kernel
set_option maxRecDepth 20000 in
theorem ggX7_readsItem_X7_number : GoodIn wsX7_readsItem wsX7_number := goodIn_r _ [10, 11, 12, 13, 14, 9, 15, 16, 17, 18, 19, 20, 21, 22, 23, 24, 25, 26, 27, 28, 29, 30, 31, 32, 33, 34, 35, 36, 37, 38, 39, 40, 41, 42, 43, 44, 45, 46, 47, 48, 49, 50, 51, 52, 53, 54, 55, 56, 57, 58, 59, 60, 61, 62, 63, 64, 65, 66, 67, 68, 69, 70] (by decide +kernel) (by decide +kernel)
set_option maxRecDepth 20000 in
theorem gX7_readsItem_X7_number : GoodIn wsX7_readsItem (wsV RX7 114 RX7 yX7_number wsX7_number) := goodIn_app (goodIn_of _ (by decide +kernel)) ggX7_readsItem_X7_number
set_option maxRecDepth 20000 in
theorem ggX7_readsItem_X7_isWell : GoodIn wsX7_readsItem wsX7_isWell := goodIn_r _ [25, 21, 47, 48, 49, 50, 51, 52, 53, 54, 55, 56, 57, 58, 59, 60, 61, 62, 63, 64, 65, 66, 67, 68, 69, 70] (by decide +kernel) (by decide +kernel)
set_option maxRecDepth 20000 in
theorem gX7_readsItem_X7_isWell : GoodIn wsX7_readsItem (wsV RX7 100 RX7 yX7_isWell wsX7_isWell) := goodIn_app (goodIn_of _ (by decide +kernel)) ggX7_readsItem_X7_isWell
theorem dX7_readsItem_0 : decode cX7_readsItem 0 = .ok (.iload_n 1, 1) := by decide +kernel
theorem dX7_readsItem_1 : decode cX7_readsItem 1 = .ok (.ifCond .ne 84, 3) := by decide +kernel
theorem dX7_readsItem_4 : decode cX7_readsItem 4 = .ok (.iconst 0, 1) := by decide +kernel
theorem dX7_readsItem_5 : decode cX7_readsItem 5 = .ok (.istore_n 2, 1) := by decide +kernel
theorem dX7_readsItem_6 : decode cX7_readsItem 6 = .ok (.iload_n 2, 1) := by decide +kernel
theorem dX7_readsItem_7 : decode cX7_readsItem 7 = .ok (.iconst 4, 1) := by decide +kernel
theorem dX7_readsItem_8 : decode cX7_readsItem 8 = .ok (.if_icmp .ge 32, 3) := by decide +kernel
theorem dX7_readsItem_11 : decode cX7_readsItem 11 = .ok (.aload_n 0, 1) := by decide +kernel
theorem dX7_readsItem_12 : decode cX7_readsItem 12 = .ok (.getfield 13, 3) := by decide +kernel
theorem dX7_readsItem_15 : decode cX7_readsItem 15 = .ok (.bipush 24, 2) := by decide +kernel
theorem dX7_readsItem_17 : decode cX7_readsItem 17 = .ok (.iconst 4, 1) := by decide +kernel
theorem dX7_readsItem_18 : decode cX7_readsItem 18 = .ok (.aload_n 0, 1) := by decide +kernel
theorem dX7_readsItem_19 : decode cX7_readsItem 19 = .ok (.getfield 111, 3) := by decide +kernel
theorem dX7_readsItem_22 : decode cX7_readsItem 22 = .ok (.imul, 1) := by decide +kernel
theorem dX7_readsItem_23 : decode cX7_readsItem 23 = .ok (.iadd, 1) := by decide +kernel
theorem dX7_readsItem_24 : decode cX7_readsItem 24 = .ok (.iload_n 2, 1) := by decide +kernel
theorem dX7_readsItem_25 : decode cX7_readsItem 25 = .ok (.iadd, 1) := by decide +kernel
theorem dX7_readsItem_26 : decode cX7_readsItem 26 = .ok (.aload_n 0, 1) := by decide +kernel
theorem dX7_readsItem_27 : decode cX7_readsItem 27 = .ok (.iconst 0, 1) := by decide +kernel
theorem dX7_readsItem_28 : decode cX7_readsItem 28 = .ok (.bipush 9, 2) := by decide +kernel
theorem dX7_readsItem_30 : decode cX7_readsItem 30 = .ok (.invokevirtual 114, 3) := by decide +kernel
theorem dX7_readsItem_33 : decode cX7_readsItem 33 = .ok (.iastore, 1) := by decide +kernel
theorem dX7_readsItem_34 : decode cX7_readsItem 34 = .ok (.iinc 2 1, 3) := by decide +kernel
theorem dX7_readsItem_37 : decode cX7_readsItem 37 = .ok (.goto (-31), 3) := by decide +kernel
theorem dX7_readsItem_40 : decode cX7_readsItem 40 = .ok (.aload_n 0, 1) := by decide +kernel
theorem dX7_readsItem_41 : decode cX7_readsItem 41 = .ok (.getfield 16, 3) := by decide +kernel
theorem dX7_readsItem_44 : decode cX7_readsItem 44 = .ok (.bipush 6, 2) := by decide +kernel
theorem dX7_readsItem_46 : decode cX7_readsItem 46 = .ok (.aload_n 0, 1) := by decide +kernel
theorem dX7_readsItem_47 : decode cX7_readsItem 47 = .ok (.getfield 111, 3) := by decide +kernel
theorem dX7_readsItem_50 : decode cX7_readsItem 50 = .ok (.iadd, 1) := by decide +kernel
theorem dX7_readsItem_51 : decode cX7_readsItem 51 = .ok (.aload_n 0, 1) := by decide +kernel
theorem dX7_readsItem_52 : decode cX7_readsItem 52 = .ok (.iconst 1, 1) := by decide +kernel
theorem dX7_readsItem_53 : decode cX7_readsItem 53 = .ok (.bipush 9, 2) := by decide +kernel
theorem dX7_readsItem_55 : decode cX7_readsItem 55 = .ok (.invokevirtual 114, 3) := by decide +kernel
theorem dX7_readsItem_58 : decode cX7_readsItem 58 = .ok (.iastore, 1) := by decide +kernel
theorem dX7_readsItem_59 : decode cX7_readsItem 59 = .ok (.aload_n 0, 1) := by decide +kernel
theorem dX7_readsItem_60 : decode cX7_readsItem 60 = .ok (.getfield 19, 3) := by decide +kernel
theorem dX7_readsItem_63 : decode cX7_readsItem 63 = .ok (.bipush 6, 2) := by decide +kernel
theorem dX7_readsItem_65 : decode cX7_readsItem 65 = .ok (.aload_n 0, 1) := by decide +kernel
theorem dX7_readsItem_66 : decode cX7_readsItem 66 = .ok (.getfield 111, 3) := by decide +kernel
theorem dX7_readsItem_69 : decode cX7_readsItem 69 = .ok (.iadd, 1) := by decide +kernel
theorem dX7_readsItem_70 : decode cX7_readsItem 70 = .ok (.iconst 0, 1) := by decide +kernel
theorem dX7_readsItem_71 : decode cX7_readsItem 71 = .ok (.iastore, 1) := by decide +kernel
theorem dX7_readsItem_72 : decode cX7_readsItem 72 = .ok (.aload_n 0, 1) := by decide +kernel
theorem dX7_readsItem_73 : decode cX7_readsItem 73 = .ok (.dup, 1) := by decide +kernel
theorem dX7_readsItem_74 : decode cX7_readsItem 74 = .ok (.getfield 111, 3) := by decide +kernel
theorem dX7_readsItem_77 : decode cX7_readsItem 77 = .ok (.iconst 1, 1) := by decide +kernel
theorem dX7_readsItem_78 : decode cX7_readsItem 78 = .ok (.iadd, 1) := by decide +kernel
theorem dX7_readsItem_79 : decode cX7_readsItem 79 = .ok (.putfield 111, 3) := by decide +kernel
theorem dX7_readsItem_82 : decode cX7_readsItem 82 = .ok (.goto 82, 3) := by decide +kernel
theorem dX7_readsItem_85 : decode cX7_readsItem 85 = .ok (.iload_n 1, 1) := by decide +kernel
theorem dX7_readsItem_86 : decode cX7_readsItem 86 = .ok (.iconst 1, 1) := by decide +kernel
theorem dX7_readsItem_87 : decode cX7_readsItem 87 = .ok (.if_icmp .ne 51, 3) := by decide +kernel
theorem dX7_readsItem_90 : decode cX7_readsItem 90 = .ok (.aload_n 0, 1) := by decide +kernel
theorem dX7_readsItem_91 : decode cX7_readsItem 91 = .ok (.iconst 0, 1) := by decide +kernel
theorem dX7_readsItem_92 : decode cX7_readsItem 92 = .ok (.aload_n 0, 1) := by decide +kernel
theorem dX7_readsItem_93 : decode cX7_readsItem 93 = .ok (.getfield 111, 3) := by decide +kernel
theorem dX7_readsItem_96 : decode cX7_readsItem 96 = .ok (.iconst 1, 1) := by decide +kernel
theorem dX7_readsItem_97 : decode cX7_readsItem 97 = .ok (.isub, 1) := by decide +kernel
theorem dX7_readsItem_98 : decode cX7_readsItem 98 = .ok (.invokevirtual 114, 3) := by decide +kernel
theorem dX7_readsItem_101 : decode cX7_readsItem 101 = .ok (.istore_n 2, 1) := by decide +kernel
theorem dX7_readsItem_102 : decode cX7_readsItem 102 = .ok (.aload_n 0, 1) := by decide +kernel
theorem dX7_readsItem_103 : decode cX7_readsItem 103 = .ok (.iconst 0, 1) := by decide +kernel
theorem dX7_readsItem_104 : decode cX7_readsItem 104 = .ok (.iconst 3, 1) := by decide +kernel
theorem dX7_readsItem_105 : decode cX7_readsItem 105 = .ok (.invokevirtual 114, 3) := by decide +kernel
theorem dX7_readsItem_108 : decode cX7_readsItem 108 = .ok (.istore_n 3, 1) := by decide +kernel
theorem dX7_readsItem_109 : decode cX7_readsItem 109 = .ok (.aload_n 0, 1) := by decide +kernel
theorem dX7_readsItem_110 : decode cX7_readsItem 110 = .ok (.getfield 19, 3) := by decide +kernel
theorem dX7_readsItem_113 : decode cX7_readsItem 113 = .ok (.bipush 6, 2) := by decide +kernel
theorem dX7_readsItem_115 : decode cX7_readsItem 115 = .ok (.iload_n 2, 1) := by decide +kernel
theorem dX7_readsItem_116 : decode cX7_readsItem 116 = .ok (.iadd, 1) := by decide +kernel
theorem dX7_readsItem_117 : decode cX7_readsItem 117 = .ok (.dup2, 1) := by decide +kernel
theorem dX7_readsItem_118 : decode cX7_readsItem 118 = .ok (.iaload, 1) := by decide +kernel
theorem dX7_readsItem_119 : decode cX7_readsItem 119 = .ok (.aload_n 0, 1) := by decide +kernel
theorem dX7_readsItem_120 : decode cX7_readsItem 120 = .ok (.invokevirtual 100, 3) := by decide +kernel
theorem dX7_readsItem_123 : decode cX7_readsItem 123 = .ok (.ifCond .eq 9, 3) := by decide +kernel
theorem dX7_readsItem_126 : decode cX7_readsItem 126 = .ok (.iconst 1, 1) := by decide +kernel
theorem dX7_readsItem_127 : decode cX7_readsItem 127 = .ok (.iload_n 3, 1) := by decide +kernel
theorem dX7_readsItem_128 : decode cX7_readsItem 128 = .ok (.ishl, 1) := by decide +kernel
theorem dX7_readsItem_129 : decode cX7_readsItem 129 = .ok (.goto 4, 3) := by decide +kernel
theorem dX7_readsItem_132 : decode cX7_readsItem 132 = .ok (.iconst 0, 1) := by decide +kernel
theorem dX7_readsItem_133 : decode cX7_readsItem 133 = .ok (.ior, 1) := by decide +kernel
theorem dX7_readsItem_134 : decode cX7_readsItem 134 = .ok (.iastore, 1) := by decide +kernel
theorem dX7_readsItem_135 : decode cX7_readsItem 135 = .ok (.goto 29, 3) := by decide +kernel
theorem dX7_readsItem_138 : decode cX7_readsItem 138 = .ok (.aload_n 0, 1) := by decide +kernel
theorem dX7_readsItem_139 : decode cX7_readsItem 139 = .ok (.getfield 22, 3) := by decide +kernel
theorem dX7_readsItem_142 : decode cX7_readsItem 142 = .ok (.iconst 3, 1) := by decide +kernel
theorem dX7_readsItem_143 : decode cX7_readsItem 143 = .ok (.iload_n 1, 1) := by decide +kernel
theorem dX7_readsItem_144 : decode cX7_readsItem 144 = .ok (.iadd, 1) := by decide +kernel
theorem dX7_readsItem_145 : decode cX7_readsItem 145 = .ok (.iconst 2, 1) := by decide +kernel
theorem dX7_readsItem_146 : decode cX7_readsItem 146 = .ok (.isub, 1) := by decide +kernel
theorem dX7_readsItem_147 : decode cX7_readsItem 147 = .ok (.aload_n 0, 1) := by decide +kernel
theorem dX7_readsItem_148 : decode cX7_readsItem 148 = .ok (.iconst 0, 1) := by decide +kernel
theorem dX7_readsItem_149 : decode cX7_readsItem 149 = .ok (.iload_n 1, 1) := by decide +kernel
theorem dX7_readsItem_150 : decode cX7_readsItem 150 = .ok (.iconst 2, 1) := by decide +kernel
theorem dX7_readsItem_151 : decode cX7_readsItem 151 = .ok (.if_icmp .ne 7, 3) := by decide +kernel
theorem dX7_readsItem_154 : decode cX7_readsItem 154 = .ok (.iconst 2, 1) := by decide +kernel
theorem dX7_readsItem_155 : decode cX7_readsItem 155 = .ok (.goto 5, 3) := by decide +kernel
theorem dX7_readsItem_158 : decode cX7_readsItem 158 = .ok (.bipush 9, 2) := by decide +kernel
theorem dX7_readsItem_160 : decode cX7_readsItem 160 = .ok (.invokevirtual 114, 3) := by decide +kernel
theorem dX7_readsItem_163 : decode cX7_readsItem 163 = .ok (.iastore, 1) := by decide +kernel
theorem dX7_readsItem_164 : decode cX7_readsItem 164 = .ok (.return_, 1) := by decide +kernel
set_option maxRecDepth 20000 in
theorem ggX7_village_X7_advances : GoodIn wsX7_village wsX7_advances := goodIn_r _ [18, 3, 19, 6, 7, 20, 21, 22, 17, 23, 12, 24, 25, 26, 27, 28, 29, 30, 31, 32, 33, 34, 35, 36, 37, 63, 64, 65, 66, 67, 68, 69, 70, 71, 72, 73, 74, 75, 76, 77, 78, 79, 80, 81, 82, 83, 84, 85, 86] (by decide +kernel) (by decide +kernel)
set_option maxRecDepth 20000 in
theorem gX7_village_X7_advances : GoodIn wsX7_village (wsV RX7 104 RX7 yX7_advances wsX7_advances) := goodIn_app (goodIn_of _ (by decide +kernel)) ggX7_village_X7_advances
set_option maxRecDepth 20000 in
theorem ggX7_village_X7_isWell : GoodIn wsX7_village wsX7_isWell := goodIn_r _ [41, 2, 63, 64, 65, 66, 67, 68, 69, 70, 71, 72, 73, 74, 75, 76, 77, 78, 79, 80, 81, 82, 83, 84, 85, 86] (by decide +kernel) (by decide +kernel)
set_option maxRecDepth 20000 in
theorem gX7_village_X7_isWell : GoodIn wsX7_village (wsV RX7 100 RX7 yX7_isWell wsX7_isWell) := goodIn_app (goodIn_of _ (by decide +kernel)) ggX7_village_X7_isWell
set_option maxRecDepth 20000 in
theorem ggX7_village_X7_takes : GoodIn wsX7_village wsX7_takes := goodIn_r _ [45, 19, 2, 7, 38, 39, 40, 17, 41, 14, 15, 16, 18, 3, 6, 20, 21, 22, 23, 12, 24, 25, 26, 27, 28, 29, 30, 31, 32, 33, 34, 35, 36, 37, 63, 64, 65, 66, 67, 68, 69, 70, 71, 72, 73, 74, 75, 76, 77, 78, 79, 80, 81, 82, 83, 84, 85, 86] (by decide +kernel) (by decide +kernel)
set_option maxRecDepth 20000 in
theorem gX7_village_X7_takes : GoodIn wsX7_village (wsV RX7 107 RX7 yX7_takes wsX7_takes) := goodIn_app (goodIn_of _ (by decide +kernel)) ggX7_village_X7_takes
set_option maxRecDepth 20000 in
theorem ggX7_village_X7_readsItem : GoodIn wsX7_village wsX7_readsItem := goodIn_r _ [49, 9, 4, 10, 11, 5, 50, 51, 52, 17, 53, 6, 7, 25, 26, 27, 42, 43, 44, 45, 19, 2, 38, 39, 40, 41, 14, 15, 16, 18, 3, 20, 21, 22, 23, 12, 24, 28, 29, 30, 31, 32, 33, 34, 35, 36, 37, 63, 64, 65, 66, 67, 68, 69, 70, 71, 72, 73, 74, 75, 76, 77, 78, 79, 80, 81, 82, 83, 84, 85, 86] (by decide +kernel) (by decide +kernel)
set_option maxRecDepth 20000 in
theorem gX7_village_X7_readsItem : GoodIn wsX7_village (wsV RX7 118 RX7 yX7_readsItem wsX7_readsItem) := goodIn_app (goodIn_of _ (by decide +kernel)) ggX7_village_X7_readsItem
set_option maxRecDepth 20000 in
theorem ggX7_village_X7_begins : GoodIn wsX7_village wsX7_begins := goodIn_r _ [57, 58, 8, 9, 59, 60, 61, 17, 62, 63, 64, 65, 66, 67, 68, 69, 70, 71, 72, 73, 74, 75, 76, 77, 78, 79, 80, 81, 82, 83, 84, 85, 86] (by decide +kernel) (by decide +kernel)
set_option maxRecDepth 20000 in
theorem gX7_village_X7_begins : GoodIn wsX7_village (wsV RX7 51 RX7 yX7_begins wsX7_begins) := goodIn_app (goodIn_of _ (by decide +kernel)) ggX7_village_X7_begins
theorem dX7_village_0 : decode cX7_village 0 = .ok (.aload_n 0, 1) := by decide +kernel
theorem dX7_village_1 : decode cX7_village 1 = .ok (.iconst 0, 1) := by decide +kernel
theorem dX7_village_2 : decode cX7_village 2 = .ok (.putfield 54, 3) := by decide +kernel
theorem dX7_village_5 : decode cX7_village 5 = .ok (.aload_n 0, 1) := by decide +kernel
theorem dX7_village_6 : decode cX7_village 6 = .ok (.iconst (-1), 1) := by decide +kernel
theorem dX7_village_7 : decode cX7_village 7 = .ok (.putfield 97, 3) := by decide +kernel
theorem dX7_village_10 : decode cX7_village 10 = .ok (.aload_n 0, 1) := by decide +kernel
theorem dX7_village_11 : decode cX7_village 11 = .ok (.iconst 0, 1) := by decide +kernel
theorem dX7_village_12 : decode cX7_village 12 = .ok (.putfield 77, 3) := by decide +kernel
theorem dX7_village_15 : decode cX7_village 15 = .ok (.iconst 0, 1) := by decide +kernel
theorem dX7_village_16 : decode cX7_village 16 = .ok (.istore_n 1, 1) := by decide +kernel
theorem dX7_village_17 : decode cX7_village 17 = .ok (.aload_n 0, 1) := by decide +kernel
theorem dX7_village_18 : decode cX7_village 18 = .ok (.iconst 0, 1) := by decide +kernel
theorem dX7_village_19 : decode cX7_village 19 = .ok (.putfield 111, 3) := by decide +kernel
theorem dX7_village_22 : decode cX7_village 22 = .ok (.iconst 3, 1) := by decide +kernel
theorem dX7_village_23 : decode cX7_village 23 = .ok (.istore_n 2, 1) := by decide +kernel
theorem dX7_village_24 : decode cX7_village 24 = .ok (.iload_n 2, 1) := by decide +kernel
theorem dX7_village_25 : decode cX7_village 25 = .ok (.bipush 6, 2) := by decide +kernel
theorem dX7_village_27 : decode cX7_village 27 = .ok (.if_icmp .ge 17, 3) := by decide +kernel
theorem dX7_village_30 : decode cX7_village 30 = .ok (.aload_n 0, 1) := by decide +kernel
theorem dX7_village_31 : decode cX7_village 31 = .ok (.getfield 22, 3) := by decide +kernel
theorem dX7_village_34 : decode cX7_village 34 = .ok (.iload_n 2, 1) := by decide +kernel
theorem dX7_village_35 : decode cX7_village 35 = .ok (.bipush (-9), 2) := by decide +kernel
theorem dX7_village_37 : decode cX7_village 37 = .ok (.iastore, 1) := by decide +kernel
theorem dX7_village_38 : decode cX7_village 38 = .ok (.iinc 2 1, 3) := by decide +kernel
theorem dX7_village_41 : decode cX7_village 41 = .ok (.goto (-17), 3) := by decide +kernel
theorem dX7_village_44 : decode cX7_village 44 = .ok (.aload_n 0, 1) := by decide +kernel
theorem dX7_village_45 : decode cX7_village 45 = .ok (.invokevirtual 104, 3) := by decide +kernel
theorem dX7_village_48 : decode cX7_village 48 = .ok (.aload_n 0, 1) := by decide +kernel
theorem dX7_village_49 : decode cX7_village 49 = .ok (.invokevirtual 100, 3) := by decide +kernel
theorem dX7_village_52 : decode cX7_village 52 = .ok (.ifCond .eq 111, 3) := by decide +kernel
theorem dX7_village_55 : decode cX7_village 55 = .ok (.aload_n 0, 1) := by decide +kernel
theorem dX7_village_56 : decode cX7_village 56 = .ok (.getfield 87, 3) := by decide +kernel
theorem dX7_village_59 : decode cX7_village 59 = .ok (.ifCond .eq 104, 3) := by decide +kernel
theorem dX7_village_62 : decode cX7_village 62 = .ok (.aload_n 0, 1) := by decide +kernel
theorem dX7_village_63 : decode cX7_village 63 = .ok (.getfield 87, 3) := by decide +kernel
theorem dX7_village_66 : decode cX7_village 66 = .ok (.iconst 1, 1) := by decide +kernel
theorem dX7_village_67 : decode cX7_village 67 = .ok (.if_icmp .ne 52, 3) := by decide +kernel
theorem dX7_village_70 : decode cX7_village 70 = .ok (.aload_n 0, 1) := by decide +kernel
theorem dX7_village_71 : decode cX7_village 71 = .ok (.getfield 94, 3) := by decide +kernel
theorem dX7_village_74 : decode cX7_village 74 = .ok (.ifCond .ne 15, 3) := by decide +kernel
theorem dX7_village_77 : decode cX7_village 77 = .ok (.aload_n 0, 1) := by decide +kernel
theorem dX7_village_78 : decode cX7_village 78 = .ok (.getfield 111, 3) := by decide +kernel
theorem dX7_village_81 : decode cX7_village 81 = .ok (.bipush 6, 2) := by decide +kernel
theorem dX7_village_83 : decode cX7_village 83 = .ok (.if_icmp .ge 36, 3) := by decide +kernel
theorem dX7_village_86 : decode cX7_village 86 = .ok (.goto 29, 3) := by decide +kernel
theorem dX7_village_89 : decode cX7_village 89 = .ok (.aload_n 0, 1) := by decide +kernel
theorem dX7_village_90 : decode cX7_village 90 = .ok (.getfield 94, 3) := by decide +kernel
theorem dX7_village_93 : decode cX7_village 93 = .ok (.iconst 1, 1) := by decide +kernel
theorem dX7_village_94 : decode cX7_village 94 = .ok (.if_icmp .eq 21, 3) := by decide +kernel
theorem dX7_village_97 : decode cX7_village 97 = .ok (.aload_n 0, 1) := by decide +kernel
theorem dX7_village_98 : decode cX7_village 98 = .ok (.getfield 22, 3) := by decide +kernel
theorem dX7_village_101 : decode cX7_village 101 = .ok (.iconst 3, 1) := by decide +kernel
theorem dX7_village_102 : decode cX7_village 102 = .ok (.aload_n 0, 1) := by decide +kernel
theorem dX7_village_103 : decode cX7_village 103 = .ok (.getfield 94, 3) := by decide +kernel
theorem dX7_village_106 : decode cX7_village 106 = .ok (.iadd, 1) := by decide +kernel
theorem dX7_village_107 : decode cX7_village 107 = .ok (.iconst 2, 1) := by decide +kernel
theorem dX7_village_108 : decode cX7_village 108 = .ok (.isub, 1) := by decide +kernel
theorem dX7_village_109 : decode cX7_village 109 = .ok (.iaload, 1) := by decide +kernel
theorem dX7_village_110 : decode cX7_village 110 = .ok (.bipush (-9), 2) := by decide +kernel
theorem dX7_village_112 : decode cX7_village 112 = .ok (.if_icmp .ne 7, 3) := by decide +kernel
theorem dX7_village_115 : decode cX7_village 115 = .ok (.iconst 1, 1) := by decide +kernel
theorem dX7_village_116 : decode cX7_village 116 = .ok (.goto 4, 3) := by decide +kernel
theorem dX7_village_119 : decode cX7_village 119 = .ok (.iconst 0, 1) := by decide +kernel
theorem dX7_village_120 : decode cX7_village 120 = .ok (.istore_n 2, 1) := by decide +kernel
theorem dX7_village_121 : decode cX7_village 121 = .ok (.aload_n 0, 1) := by decide +kernel
theorem dX7_village_122 : decode cX7_village 122 = .ok (.iload_n 2, 1) := by decide +kernel
theorem dX7_village_123 : decode cX7_village 123 = .ok (.invokevirtual 107, 3) := by decide +kernel
theorem dX7_village_126 : decode cX7_village 126 = .ok (.istore_n 3, 1) := by decide +kernel
theorem dX7_village_127 : decode cX7_village 127 = .ok (.aload_n 0, 1) := by decide +kernel
theorem dX7_village_128 : decode cX7_village 128 = .ok (.invokevirtual 100, 3) := by decide +kernel
theorem dX7_village_131 : decode cX7_village 131 = .ok (.ifCond .eq 8, 3) := by decide +kernel
theorem dX7_village_134 : decode cX7_village 134 = .ok (.aload_n 0, 1) := by decide +kernel
theorem dX7_village_135 : decode cX7_village 135 = .ok (.iload_n 3, 1) := by decide +kernel
theorem dX7_village_136 : decode cX7_village 136 = .ok (.invokevirtual 118, 3) := by decide +kernel
theorem dX7_village_139 : decode cX7_village 139 = .ok (.aload_n 0, 1) := by decide +kernel
theorem dX7_village_140 : decode cX7_village 140 = .ok (.aload_n 0, 1) := by decide +kernel
theorem dX7_village_141 : decode cX7_village 141 = .ok (.getfield 87, 3) := by decide +kernel
theorem dX7_village_144 : decode cX7_village 144 = .ok (.iconst 3, 1) := by decide +kernel
theorem dX7_village_145 : decode cX7_village 145 = .ok (.if_icmp .ne 7, 3) := by decide +kernel
theorem dX7_village_148 : decode cX7_village 148 = .ok (.iconst 1, 1) := by decide +kernel
theorem dX7_village_149 : decode cX7_village 149 = .ok (.goto 4, 3) := by decide +kernel
theorem dX7_village_152 : decode cX7_village 152 = .ok (.iconst 0, 1) := by decide +kernel
theorem dX7_village_153 : decode cX7_village 153 = .ok (.invokevirtual 107, 3) := by decide +kernel
theorem dX7_village_156 : decode cX7_village 156 = .ok (.pop, 1) := by decide +kernel
theorem dX7_village_157 : decode cX7_village 157 = .ok (.iinc 1 1, 3) := by decide +kernel
theorem dX7_village_160 : decode cX7_village 160 = .ok (.goto (-112), 3) := by decide +kernel
theorem dX7_village_163 : decode cX7_village 163 = .ok (.aload_n 0, 1) := by decide +kernel
theorem dX7_village_164 : decode cX7_village 164 = .ok (.invokevirtual 100, 3) := by decide +kernel
theorem dX7_village_167 : decode cX7_village 167 = .ok (.ifCond .ne 11, 3) := by decide +kernel
theorem dX7_village_170 : decode cX7_village 170 = .ok (.bipush (-10), 2) := by decide +kernel
theorem dX7_village_172 : decode cX7_village 172 = .ok (.aload_n 0, 1) := by decide +kernel
theorem dX7_village_173 : decode cX7_village 173 = .ok (.getfield 97, 3) := by decide +kernel
theorem dX7_village_176 : decode cX7_village 176 = .ok (.isub, 1) := by decide +kernel
theorem dX7_village_177 : decode cX7_village 177 = .ok (.ireturn, 1) := by decide +kernel
theorem dX7_village_178 : decode cX7_village 178 = .ok (.aload_n 0, 1) := by decide +kernel
theorem dX7_village_179 : decode cX7_village 179 = .ok (.aload_n 0, 1) := by decide +kernel
theorem dX7_village_180 : decode cX7_village 180 = .ok (.getfield 111, 3) := by decide +kernel
theorem dX7_village_183 : decode cX7_village 183 = .ok (.putfield 122, 3) := by decide +kernel
theorem dX7_village_186 : decode cX7_village 186 = .ok (.iconst 0, 1) := by decide +kernel
theorem dX7_village_187 : decode cX7_village 187 = .ok (.istore_n 2, 1) := by decide +kernel
theorem dX7_village_188 : decode cX7_village 188 = .ok (.iload_n 2, 1) := by decide +kernel
theorem dX7_village_189 : decode cX7_village 189 = .ok (.bipush 24, 2) := by decide +kernel
theorem dX7_village_191 : decode cX7_village 191 = .ok (.if_icmp .ge 24, 3) := by decide +kernel
theorem dX7_village_194 : decode cX7_village 194 = .ok (.aload_n 0, 1) := by decide +kernel
theorem dX7_village_195 : decode cX7_village 195 = .ok (.getfield 13, 3) := by decide +kernel
theorem dX7_village_198 : decode cX7_village 198 = .ok (.iload_n 2, 1) := by decide +kernel
theorem dX7_village_199 : decode cX7_village 199 = .ok (.aload_n 0, 1) := by decide +kernel
theorem dX7_village_200 : decode cX7_village 200 = .ok (.getfield 13, 3) := by decide +kernel
theorem dX7_village_203 : decode cX7_village 203 = .ok (.bipush 24, 2) := by decide +kernel
theorem dX7_village_205 : decode cX7_village 205 = .ok (.iload_n 2, 1) := by decide +kernel
theorem dX7_village_206 : decode cX7_village 206 = .ok (.iadd, 1) := by decide +kernel
theorem dX7_village_207 : decode cX7_village 207 = .ok (.iaload, 1) := by decide +kernel
theorem dX7_village_208 : decode cX7_village 208 = .ok (.iastore, 1) := by decide +kernel
theorem dX7_village_209 : decode cX7_village 209 = .ok (.iinc 2 1, 3) := by decide +kernel
theorem dX7_village_212 : decode cX7_village 212 = .ok (.goto (-24), 3) := by decide +kernel
theorem dX7_village_215 : decode cX7_village 215 = .ok (.iconst 0, 1) := by decide +kernel
theorem dX7_village_216 : decode cX7_village 216 = .ok (.istore_n 2, 1) := by decide +kernel
theorem dX7_village_217 : decode cX7_village 217 = .ok (.iload_n 2, 1) := by decide +kernel
theorem dX7_village_218 : decode cX7_village 218 = .ok (.bipush 6, 2) := by decide +kernel
theorem dX7_village_220 : decode cX7_village 220 = .ok (.if_icmp .ge 39, 3) := by decide +kernel
theorem dX7_village_223 : decode cX7_village 223 = .ok (.aload_n 0, 1) := by decide +kernel
theorem dX7_village_224 : decode cX7_village 224 = .ok (.getfield 16, 3) := by decide +kernel
theorem dX7_village_227 : decode cX7_village 227 = .ok (.iload_n 2, 1) := by decide +kernel
theorem dX7_village_228 : decode cX7_village 228 = .ok (.aload_n 0, 1) := by decide +kernel
theorem dX7_village_229 : decode cX7_village 229 = .ok (.getfield 16, 3) := by decide +kernel
theorem dX7_village_232 : decode cX7_village 232 = .ok (.bipush 6, 2) := by decide +kernel
theorem dX7_village_234 : decode cX7_village 234 = .ok (.iload_n 2, 1) := by decide +kernel
theorem dX7_village_235 : decode cX7_village 235 = .ok (.iadd, 1) := by decide +kernel
theorem dX7_village_236 : decode cX7_village 236 = .ok (.iaload, 1) := by decide +kernel
theorem dX7_village_237 : decode cX7_village 237 = .ok (.iastore, 1) := by decide +kernel
theorem dX7_village_238 : decode cX7_village 238 = .ok (.aload_n 0, 1) := by decide +kernel
theorem dX7_village_239 : decode cX7_village 239 = .ok (.getfield 19, 3) := by decide +kernel
theorem dX7_village_242 : decode cX7_village 242 = .ok (.iload_n 2, 1) := by decide +kernel
theorem dX7_village_243 : decode cX7_village 243 = .ok (.aload_n 0, 1) := by decide +kernel
theorem dX7_village_244 : decode cX7_village 244 = .ok (.getfield 19, 3) := by decide +kernel
theorem dX7_village_247 : decode cX7_village 247 = .ok (.bipush 6, 2) := by decide +kernel
theorem dX7_village_249 : decode cX7_village 249 = .ok (.iload_n 2, 1) := by decide +kernel
theorem dX7_village_250 : decode cX7_village 250 = .ok (.iadd, 1) := by decide +kernel
theorem dX7_village_251 : decode cX7_village 251 = .ok (.iaload, 1) := by decide +kernel
theorem dX7_village_252 : decode cX7_village 252 = .ok (.iastore, 1) := by decide +kernel
theorem dX7_village_253 : decode cX7_village 253 = .ok (.iinc 2 1, 3) := by decide +kernel
theorem dX7_village_256 : decode cX7_village 256 = .ok (.goto (-39), 3) := by decide +kernel
theorem dX7_village_259 : decode cX7_village 259 = .ok (.iconst 0, 1) := by decide +kernel
theorem dX7_village_260 : decode cX7_village 260 = .ok (.istore_n 2, 1) := by decide +kernel
theorem dX7_village_261 : decode cX7_village 261 = .ok (.iload_n 2, 1) := by decide +kernel
theorem dX7_village_262 : decode cX7_village 262 = .ok (.iconst 3, 1) := by decide +kernel
theorem dX7_village_263 : decode cX7_village 263 = .ok (.if_icmp .ge 49, 3) := by decide +kernel
theorem dX7_village_266 : decode cX7_village 266 = .ok (.aload_n 0, 1) := by decide +kernel
theorem dX7_village_267 : decode cX7_village 267 = .ok (.getfield 22, 3) := by decide +kernel
theorem dX7_village_270 : decode cX7_village 270 = .ok (.iload_n 2, 1) := by decide +kernel
theorem dX7_village_271 : decode cX7_village 271 = .ok (.aload_n 0, 1) := by decide +kernel
theorem dX7_village_272 : decode cX7_village 272 = .ok (.getfield 22, 3) := by decide +kernel
theorem dX7_village_275 : decode cX7_village 275 = .ok (.iconst 3, 1) := by decide +kernel
theorem dX7_village_276 : decode cX7_village 276 = .ok (.iload_n 2, 1) := by decide +kernel
theorem dX7_village_277 : decode cX7_village 277 = .ok (.iadd, 1) := by decide +kernel
theorem dX7_village_278 : decode cX7_village 278 = .ok (.iaload, 1) := by decide +kernel
theorem dX7_village_279 : decode cX7_village 279 = .ok (.bipush (-9), 2) := by decide +kernel
theorem dX7_village_281 : decode cX7_village 281 = .ok (.if_icmp .ne 16, 3) := by decide +kernel
theorem dX7_village_284 : decode cX7_village 284 = .ok (.iload_n 2, 1) := by decide +kernel
theorem dX7_village_285 : decode cX7_village 285 = .ok (.iconst 2, 1) := by decide +kernel
theorem dX7_village_286 : decode cX7_village 286 = .ok (.if_icmp .ne 7, 3) := by decide +kernel
theorem dX7_village_289 : decode cX7_village 289 = .ok (.iconst 1, 1) := by decide +kernel
theorem dX7_village_290 : decode cX7_village 290 = .ok (.goto 15, 3) := by decide +kernel
theorem dX7_village_293 : decode cX7_village 293 = .ok (.iconst 0, 1) := by decide +kernel
theorem dX7_village_294 : decode cX7_village 294 = .ok (.goto 11, 3) := by decide +kernel
theorem dX7_village_297 : decode cX7_village 297 = .ok (.aload_n 0, 1) := by decide +kernel
theorem dX7_village_298 : decode cX7_village 298 = .ok (.getfield 22, 3) := by decide +kernel
theorem dX7_village_301 : decode cX7_village 301 = .ok (.iconst 3, 1) := by decide +kernel
theorem dX7_village_302 : decode cX7_village 302 = .ok (.iload_n 2, 1) := by decide +kernel
theorem dX7_village_303 : decode cX7_village 303 = .ok (.iadd, 1) := by decide +kernel
theorem dX7_village_304 : decode cX7_village 304 = .ok (.iaload, 1) := by decide +kernel
theorem dX7_village_305 : decode cX7_village 305 = .ok (.iastore, 1) := by decide +kernel
theorem dX7_village_306 : decode cX7_village 306 = .ok (.iinc 2 1, 3) := by decide +kernel
theorem dX7_village_309 : decode cX7_village 309 = .ok (.goto (-48), 3) := by decide +kernel
theorem dX7_village_312 : decode cX7_village 312 = .ok (.aload_n 0, 1) := by decide +kernel
theorem dX7_village_313 : decode cX7_village 313 = .ok (.iconst 0, 1) := by decide +kernel
theorem dX7_village_314 : decode cX7_village 314 = .ok (.putfield 62, 3) := by decide +kernel
theorem dX7_village_317 : decode cX7_village 317 = .ok (.aload_n 0, 1) := by decide +kernel
theorem dX7_village_318 : decode cX7_village 318 = .ok (.getfield 31, 3) := by decide +kernel
theorem dX7_village_321 : decode cX7_village 321 = .ok (.iconst 0, 1) := by decide +kernel
theorem dX7_village_322 : decode cX7_village 322 = .ok (.iconst 0, 1) := by decide +kernel
theorem dX7_village_323 : decode cX7_village 323 = .ok (.bastore, 1) := by decide +kernel
theorem dX7_village_324 : decode cX7_village 324 = .ok (.aload_n 0, 1) := by decide +kernel
theorem dX7_village_325 : decode cX7_village 325 = .ok (.getfield 31, 3) := by decide +kernel
theorem dX7_village_328 : decode cX7_village 328 = .ok (.iconst 1, 1) := by decide +kernel
theorem dX7_village_329 : decode cX7_village 329 = .ok (.iconst 0, 1) := by decide +kernel
theorem dX7_village_330 : decode cX7_village 330 = .ok (.bastore, 1) := by decide +kernel
theorem dX7_village_331 : decode cX7_village 331 = .ok (.aload_n 0, 1) := by decide +kernel
theorem dX7_village_332 : decode cX7_village 332 = .ok (.invokevirtual 51, 3) := by decide +kernel
theorem dX7_village_335 : decode cX7_village 335 = .ok (.iload_n 1, 1) := by decide +kernel
theorem dX7_village_336 : decode cX7_village 336 = .ok (.ireturn, 1) := by decide +kernel
set_option maxRecDepth 20000 in
theorem ggX7_begins_X7_clears : GoodIn wsX7_begins wsX7_clears := goodIn_r _ [8, 1, 9, 10, 11, 12, 13, 14, 15, 16, 17, 18, 19, 20, 21, 22, 23, 24, 25, 26, 27, 28, 29, 30, 31, 32] (by decide +kernel) (by decide +kernel)
set_option maxRecDepth 20000 in
theorem gX7_begins_X7_clears : GoodIn wsX7_begins (wsV RX7 125 RX7 yX7_clears wsX7_clears) := goodIn_app (goodIn_of _ (by decide +kernel)) ggX7_begins_X7_clears
theorem dX7_begins_0 : decode cX7_begins 0 = .ok (.iconst 0, 1) := by decide +kernel
theorem dX7_begins_1 : decode cX7_begins 1 = .ok (.istore_n 1, 1) := by decide +kernel
theorem dX7_begins_2 : decode cX7_begins 2 = .ok (.iload_n 1, 1) := by decide +kernel
theorem dX7_begins_3 : decode cX7_begins 3 = .ok (.bipush 24, 2) := by decide +kernel
theorem dX7_begins_5 : decode cX7_begins 5 = .ok (.if_icmp .ge 35, 3) := by decide +kernel
theorem dX7_begins_8 : decode cX7_begins 8 = .ok (.aload_n 0, 1) := by decide +kernel
theorem dX7_begins_9 : decode cX7_begins 9 = .ok (.getfield 25, 3) := by decide +kernel
theorem dX7_begins_12 : decode cX7_begins 12 = .ok (.iload_n 1, 1) := by decide +kernel
theorem dX7_begins_13 : decode cX7_begins 13 = .ok (.iload_n 1, 1) := by decide +kernel
theorem dX7_begins_14 : decode cX7_begins 14 = .ok (.iconst 4, 1) := by decide +kernel
theorem dX7_begins_15 : decode cX7_begins 15 = .ok (.aload_n 0, 1) := by decide +kernel
theorem dX7_begins_16 : decode cX7_begins 16 = .ok (.getfield 122, 3) := by decide +kernel
theorem dX7_begins_19 : decode cX7_begins 19 = .ok (.imul, 1) := by decide +kernel
theorem dX7_begins_20 : decode cX7_begins 20 = .ok (.if_icmp .ge 12, 3) := by decide +kernel
theorem dX7_begins_23 : decode cX7_begins 23 = .ok (.aload_n 0, 1) := by decide +kernel
theorem dX7_begins_24 : decode cX7_begins 24 = .ok (.getfield 13, 3) := by decide +kernel
theorem dX7_begins_27 : decode cX7_begins 27 = .ok (.iload_n 1, 1) := by decide +kernel
theorem dX7_begins_28 : decode cX7_begins 28 = .ok (.iaload, 1) := by decide +kernel
theorem dX7_begins_29 : decode cX7_begins 29 = .ok (.goto 4, 3) := by decide +kernel
theorem dX7_begins_32 : decode cX7_begins 32 = .ok (.iconst 0, 1) := by decide +kernel
theorem dX7_begins_33 : decode cX7_begins 33 = .ok (.iastore, 1) := by decide +kernel
theorem dX7_begins_34 : decode cX7_begins 34 = .ok (.iinc 1 1, 3) := by decide +kernel
theorem dX7_begins_37 : decode cX7_begins 37 = .ok (.goto (-35), 3) := by decide +kernel
theorem dX7_begins_40 : decode cX7_begins 40 = .ok (.aload_n 0, 1) := by decide +kernel
theorem dX7_begins_41 : decode cX7_begins 41 = .ok (.getfield 25, 3) := by decide +kernel
theorem dX7_begins_44 : decode cX7_begins 44 = .ok (.bipush 65, 2) := by decide +kernel
theorem dX7_begins_46 : decode cX7_begins 46 = .ok (.iconst 0, 1) := by decide +kernel
theorem dX7_begins_47 : decode cX7_begins 47 = .ok (.iastore, 1) := by decide +kernel
theorem dX7_begins_48 : decode cX7_begins 48 = .ok (.aload_n 0, 1) := by decide +kernel
theorem dX7_begins_49 : decode cX7_begins 49 = .ok (.invokevirtual 125, 3) := by decide +kernel
theorem dX7_begins_52 : decode cX7_begins 52 = .ok (.return_, 1) := by decide +kernel
theorem dX7_clears_0 : decode cX7_clears 0 = .ok (.bipush 24, 2) := by decide +kernel
theorem dX7_clears_2 : decode cX7_clears 2 = .ok (.istore_n 1, 1) := by decide +kernel
theorem dX7_clears_3 : decode cX7_clears 3 = .ok (.iload_n 1, 1) := by decide +kernel
theorem dX7_clears_4 : decode cX7_clears 4 = .ok (.bipush 65, 2) := by decide +kernel
theorem dX7_clears_6 : decode cX7_clears 6 = .ok (.if_icmp .ge 27, 3) := by decide +kernel
theorem dX7_clears_9 : decode cX7_clears 9 = .ok (.aload_n 0, 1) := by decide +kernel
theorem dX7_clears_10 : decode cX7_clears 10 = .ok (.getfield 25, 3) := by decide +kernel
theorem dX7_clears_13 : decode cX7_clears 13 = .ok (.iload_n 1, 1) := by decide +kernel
theorem dX7_clears_14 : decode cX7_clears 14 = .ok (.iload_n 1, 1) := by decide +kernel
theorem dX7_clears_15 : decode cX7_clears 15 = .ok (.bipush 30, 2) := by decide +kernel
theorem dX7_clears_17 : decode cX7_clears 17 = .ok (.if_icmp .ge 8, 3) := by decide +kernel
theorem dX7_clears_20 : decode cX7_clears 20 = .ok (.bipush (-9), 2) := by decide +kernel
theorem dX7_clears_22 : decode cX7_clears 22 = .ok (.goto 4, 3) := by decide +kernel
theorem dX7_clears_25 : decode cX7_clears 25 = .ok (.iconst 0, 1) := by decide +kernel
theorem dX7_clears_26 : decode cX7_clears 26 = .ok (.iastore, 1) := by decide +kernel
theorem dX7_clears_27 : decode cX7_clears 27 = .ok (.iinc 1 1, 3) := by decide +kernel
theorem dX7_clears_30 : decode cX7_clears 30 = .ok (.goto (-27), 3) := by decide +kernel
theorem dX7_clears_33 : decode cX7_clears 33 = .ok (.return_, 1) := by decide +kernel
set_option maxRecDepth 20000 in
theorem ggX7_isHouse_X7_in : GoodIn wsX7_isHouse wsX7_in := goodIn_r _ [5] (by decide +kernel) (by decide +kernel)
set_option maxRecDepth 20000 in
theorem gX7_isHouse_X7_in : GoodIn wsX7_isHouse (va_wsS RX7 58 yX7_in wsX7_in) := goodIn_app (goodIn_of _ (by decide +kernel)) ggX7_isHouse_X7_in
theorem dX7_isHouse_0 : decode cX7_isHouse 0 = .ok (.iload_n 1, 1) := by decide +kernel
theorem dX7_isHouse_1 : decode cX7_isHouse 1 = .ok (.iconst 0, 1) := by decide +kernel
theorem dX7_isHouse_2 : decode cX7_isHouse 2 = .ok (.aload_n 0, 1) := by decide +kernel
theorem dX7_isHouse_3 : decode cX7_isHouse 3 = .ok (.getfield 122, 3) := by decide +kernel
theorem dX7_isHouse_6 : decode cX7_isHouse 6 = .ok (.iconst 1, 1) := by decide +kernel
theorem dX7_isHouse_7 : decode cX7_isHouse 7 = .ok (.isub, 1) := by decide +kernel
theorem dX7_isHouse_8 : decode cX7_isHouse 8 = .ok (.invokestatic 58, 3) := by decide +kernel
theorem dX7_isHouse_11 : decode cX7_isHouse 11 = .ok (.ireturn, 1) := by decide +kernel
set_option maxRecDepth 20000 in
theorem ggX7_isSort_X7_in : GoodIn wsX7_isSort wsX7_in := goodIn_r _ [4] (by decide +kernel) (by decide +kernel)
set_option maxRecDepth 20000 in
theorem gX7_isSort_X7_in : GoodIn wsX7_isSort (va_wsS RX7 58 yX7_in wsX7_in) := goodIn_app (goodIn_of _ (by decide +kernel)) ggX7_isSort_X7_in
theorem dX7_isSort_0 : decode cX7_isSort 0 = .ok (.iload_n 0, 1) := by decide +kernel
theorem dX7_isSort_1 : decode cX7_isSort 1 = .ok (.iconst 0, 1) := by decide +kernel
theorem dX7_isSort_2 : decode cX7_isSort 2 = .ok (.iconst 3, 1) := by decide +kernel
theorem dX7_isSort_3 : decode cX7_isSort 3 = .ok (.invokestatic 58, 3) := by decide +kernel
theorem dX7_isSort_6 : decode cX7_isSort 6 = .ok (.ireturn, 1) := by decide +kernel
set_option maxRecDepth 20000 in
theorem ggX7_house_X7_isHouse : GoodIn wsX7_house wsX7_isHouse := goodIn_r _ [9, 10, 11, 12, 8, 13, 14, 15, 16, 17, 18, 19, 20, 21, 22, 23, 24, 25, 26, 27, 28, 29, 30, 31, 32, 33, 34, 35, 36, 37] (by decide +kernel) (by decide +kernel)
set_option maxRecDepth 20000 in
theorem gX7_house_X7_isHouse : GoodIn wsX7_house (wsV RX7 128 RX7 yX7_isHouse wsX7_isHouse) := goodIn_app (goodIn_of _ (by decide +kernel)) ggX7_house_X7_isHouse
set_option maxRecDepth 20000 in
theorem ggX7_house_X7_in : GoodIn wsX7_house wsX7_in := goodIn_r _ [13] (by decide +kernel) (by decide +kernel)
set_option maxRecDepth 20000 in
theorem gX7_house_X7_in : GoodIn wsX7_house (va_wsS RX7 58 yX7_in wsX7_in) := goodIn_app (goodIn_of _ (by decide +kernel)) ggX7_house_X7_in
theorem dX7_house_0 : decode cX7_house 0 = .ok (.aload_n 0, 1) := by decide +kernel
theorem dX7_house_1 : decode cX7_house 1 = .ok (.iconst 0, 1) := by decide +kernel
theorem dX7_house_2 : decode cX7_house 2 = .ok (.putfield 54, 3) := by decide +kernel
theorem dX7_house_5 : decode cX7_house 5 = .ok (.aload_n 0, 1) := by decide +kernel
theorem dX7_house_6 : decode cX7_house 6 = .ok (.iload_n 1, 1) := by decide +kernel
theorem dX7_house_7 : decode cX7_house 7 = .ok (.invokevirtual 128, 3) := by decide +kernel
theorem dX7_house_10 : decode cX7_house 10 = .ok (.ifCond .eq 13, 3) := by decide +kernel
theorem dX7_house_13 : decode cX7_house 13 = .ok (.iload_n 2, 1) := by decide +kernel
theorem dX7_house_14 : decode cX7_house 14 = .ok (.iconst 0, 1) := by decide +kernel
theorem dX7_house_15 : decode cX7_house 15 = .ok (.bipush 6, 2) := by decide +kernel
theorem dX7_house_17 : decode cX7_house 17 = .ok (.invokestatic 58, 3) := by decide +kernel
theorem dX7_house_20 : decode cX7_house 20 = .ok (.ifCond .ne 5, 3) := by decide +kernel
theorem dX7_house_23 : decode cX7_house 23 = .ok (.iconst (-1), 1) := by decide +kernel
theorem dX7_house_24 : decode cX7_house 24 = .ok (.ireturn, 1) := by decide +kernel
theorem dX7_house_25 : decode cX7_house 25 = .ok (.iload_n 2, 1) := by decide +kernel
theorem dX7_house_26 : decode cX7_house 26 = .ok (.iconst 4, 1) := by decide +kernel
theorem dX7_house_27 : decode cX7_house 27 = .ok (.if_icmp .ge 16, 3) := by decide +kernel
theorem dX7_house_30 : decode cX7_house 30 = .ok (.aload_n 0, 1) := by decide +kernel
theorem dX7_house_31 : decode cX7_house 31 = .ok (.getfield 25, 3) := by decide +kernel
theorem dX7_house_34 : decode cX7_house 34 = .ok (.iconst 4, 1) := by decide +kernel
theorem dX7_house_35 : decode cX7_house 35 = .ok (.iload_n 1, 1) := by decide +kernel
theorem dX7_house_36 : decode cX7_house 36 = .ok (.imul, 1) := by decide +kernel
theorem dX7_house_37 : decode cX7_house 37 = .ok (.iload_n 2, 1) := by decide +kernel
theorem dX7_house_38 : decode cX7_house 38 = .ok (.iadd, 1) := by decide +kernel
theorem dX7_house_39 : decode cX7_house 39 = .ok (.iaload, 1) := by decide +kernel
theorem dX7_house_40 : decode cX7_house 40 = .ok (.goto 40, 3) := by decide +kernel
theorem dX7_house_43 : decode cX7_house 43 = .ok (.iload_n 2, 1) := by decide +kernel
theorem dX7_house_44 : decode cX7_house 44 = .ok (.iconst 4, 1) := by decide +kernel
theorem dX7_house_45 : decode cX7_house 45 = .ok (.if_icmp .ne 12, 3) := by decide +kernel
theorem dX7_house_48 : decode cX7_house 48 = .ok (.aload_n 0, 1) := by decide +kernel
theorem dX7_house_49 : decode cX7_house 49 = .ok (.getfield 16, 3) := by decide +kernel
theorem dX7_house_52 : decode cX7_house 52 = .ok (.iload_n 1, 1) := by decide +kernel
theorem dX7_house_53 : decode cX7_house 53 = .ok (.iaload, 1) := by decide +kernel
theorem dX7_house_54 : decode cX7_house 54 = .ok (.goto 26, 3) := by decide +kernel
theorem dX7_house_57 : decode cX7_house 57 = .ok (.iload_n 2, 1) := by decide +kernel
theorem dX7_house_58 : decode cX7_house 58 = .ok (.iconst 5, 1) := by decide +kernel
theorem dX7_house_59 : decode cX7_house 59 = .ok (.if_icmp .ne 12, 3) := by decide +kernel
theorem dX7_house_62 : decode cX7_house 62 = .ok (.aload_n 0, 1) := by decide +kernel
theorem dX7_house_63 : decode cX7_house 63 = .ok (.getfield 19, 3) := by decide +kernel
theorem dX7_house_66 : decode cX7_house 66 = .ok (.iload_n 1, 1) := by decide +kernel
theorem dX7_house_67 : decode cX7_house 67 = .ok (.iaload, 1) := by decide +kernel
theorem dX7_house_68 : decode cX7_house 68 = .ok (.goto 12, 3) := by decide +kernel
theorem dX7_house_71 : decode cX7_house 71 = .ok (.aload_n 0, 1) := by decide +kernel
theorem dX7_house_72 : decode cX7_house 72 = .ok (.getfield 25, 3) := by decide +kernel
theorem dX7_house_75 : decode cX7_house 75 = .ok (.bipush 24, 2) := by decide +kernel
theorem dX7_house_77 : decode cX7_house 77 = .ok (.iload_n 1, 1) := by decide +kernel
theorem dX7_house_78 : decode cX7_house 78 = .ok (.iadd, 1) := by decide +kernel
theorem dX7_house_79 : decode cX7_house 79 = .ok (.iaload, 1) := by decide +kernel
theorem dX7_house_80 : decode cX7_house 80 = .ok (.ireturn, 1) := by decide +kernel
set_option maxRecDepth 20000 in
theorem ggX7_told_X7_in : GoodIn wsX7_told wsX7_in := goodIn_r _ [6] (by decide +kernel) (by decide +kernel)
set_option maxRecDepth 20000 in
theorem gX7_told_X7_in : GoodIn wsX7_told (va_wsS RX7 58 yX7_in wsX7_in) := goodIn_app (goodIn_of _ (by decide +kernel)) ggX7_told_X7_in
theorem dX7_told_0 : decode cX7_told 0 = .ok (.aload_n 0, 1) := by decide +kernel
theorem dX7_told_1 : decode cX7_told 1 = .ok (.iconst 0, 1) := by decide +kernel
theorem dX7_told_2 : decode cX7_told 2 = .ok (.putfield 54, 3) := by decide +kernel
theorem dX7_told_5 : decode cX7_told 5 = .ok (.iload_n 1, 1) := by decide +kernel
theorem dX7_told_6 : decode cX7_told 6 = .ok (.iconst 0, 1) := by decide +kernel
theorem dX7_told_7 : decode cX7_told 7 = .ok (.iconst 2, 1) := by decide +kernel
theorem dX7_told_8 : decode cX7_told 8 = .ok (.invokestatic 58, 3) := by decide +kernel
theorem dX7_told_11 : decode cX7_told 11 = .ok (.ifCond .eq 12, 3) := by decide +kernel
theorem dX7_told_14 : decode cX7_told 14 = .ok (.aload_n 0, 1) := by decide +kernel
theorem dX7_told_15 : decode cX7_told 15 = .ok (.getfield 22, 3) := by decide +kernel
theorem dX7_told_18 : decode cX7_told 18 = .ok (.iload_n 1, 1) := by decide +kernel
theorem dX7_told_19 : decode cX7_told 19 = .ok (.iaload, 1) := by decide +kernel
theorem dX7_told_20 : decode cX7_told 20 = .ok (.goto 4, 3) := by decide +kernel
theorem dX7_told_23 : decode cX7_told 23 = .ok (.iconst (-1), 1) := by decide +kernel
theorem dX7_told_24 : decode cX7_told 24 = .ok (.ireturn, 1) := by decide +kernel
theorem dX7_weightsOf_0 : decode cX7_weightsOf 0 = .ok (.aload_n 0, 1) := by decide +kernel
theorem dX7_weightsOf_1 : decode cX7_weightsOf 1 = .ok (.getfield 25, 3) := by decide +kernel
theorem dX7_weightsOf_4 : decode cX7_weightsOf 4 = .ok (.iconst 4, 1) := by decide +kernel
theorem dX7_weightsOf_5 : decode cX7_weightsOf 5 = .ok (.iload_n 1, 1) := by decide +kernel
theorem dX7_weightsOf_6 : decode cX7_weightsOf 6 = .ok (.imul, 1) := by decide +kernel
theorem dX7_weightsOf_7 : decode cX7_weightsOf 7 = .ok (.iaload, 1) := by decide +kernel
theorem dX7_weightsOf_8 : decode cX7_weightsOf 8 = .ok (.aload_n 0, 1) := by decide +kernel
theorem dX7_weightsOf_9 : decode cX7_weightsOf 9 = .ok (.getfield 25, 3) := by decide +kernel
theorem dX7_weightsOf_12 : decode cX7_weightsOf 12 = .ok (.iconst 4, 1) := by decide +kernel
theorem dX7_weightsOf_13 : decode cX7_weightsOf 13 = .ok (.iload_n 1, 1) := by decide +kernel
theorem dX7_weightsOf_14 : decode cX7_weightsOf 14 = .ok (.imul, 1) := by decide +kernel
theorem dX7_weightsOf_15 : decode cX7_weightsOf 15 = .ok (.iconst 1, 1) := by decide +kernel
theorem dX7_weightsOf_16 : decode cX7_weightsOf 16 = .ok (.iadd, 1) := by decide +kernel
theorem dX7_weightsOf_17 : decode cX7_weightsOf 17 = .ok (.iaload, 1) := by decide +kernel
theorem dX7_weightsOf_18 : decode cX7_weightsOf 18 = .ok (.iadd, 1) := by decide +kernel
theorem dX7_weightsOf_19 : decode cX7_weightsOf 19 = .ok (.aload_n 0, 1) := by decide +kernel
theorem dX7_weightsOf_20 : decode cX7_weightsOf 20 = .ok (.getfield 25, 3) := by decide +kernel
theorem dX7_weightsOf_23 : decode cX7_weightsOf 23 = .ok (.iconst 4, 1) := by decide +kernel
theorem dX7_weightsOf_24 : decode cX7_weightsOf 24 = .ok (.iload_n 1, 1) := by decide +kernel
theorem dX7_weightsOf_25 : decode cX7_weightsOf 25 = .ok (.imul, 1) := by decide +kernel
theorem dX7_weightsOf_26 : decode cX7_weightsOf 26 = .ok (.iconst 2, 1) := by decide +kernel
theorem dX7_weightsOf_27 : decode cX7_weightsOf 27 = .ok (.iadd, 1) := by decide +kernel
theorem dX7_weightsOf_28 : decode cX7_weightsOf 28 = .ok (.iaload, 1) := by decide +kernel
theorem dX7_weightsOf_29 : decode cX7_weightsOf 29 = .ok (.iadd, 1) := by decide +kernel
theorem dX7_weightsOf_30 : decode cX7_weightsOf 30 = .ok (.aload_n 0, 1) := by decide +kernel
theorem dX7_weightsOf_31 : decode cX7_weightsOf 31 = .ok (.getfield 25, 3) := by decide +kernel
theorem dX7_weightsOf_34 : decode cX7_weightsOf 34 = .ok (.iconst 4, 1) := by decide +kernel
theorem dX7_weightsOf_35 : decode cX7_weightsOf 35 = .ok (.iload_n 1, 1) := by decide +kernel
theorem dX7_weightsOf_36 : decode cX7_weightsOf 36 = .ok (.imul, 1) := by decide +kernel
theorem dX7_weightsOf_37 : decode cX7_weightsOf 37 = .ok (.iconst 3, 1) := by decide +kernel
theorem dX7_weightsOf_38 : decode cX7_weightsOf 38 = .ok (.iadd, 1) := by decide +kernel
theorem dX7_weightsOf_39 : decode cX7_weightsOf 39 = .ok (.iaload, 1) := by decide +kernel
theorem dX7_weightsOf_40 : decode cX7_weightsOf 40 = .ok (.iadd, 1) := by decide +kernel
theorem dX7_weightsOf_41 : decode cX7_weightsOf 41 = .ok (.ireturn, 1) := by decide +kernel
theorem dX7_bring_0 : decode cX7_bring 0 = .ok (.aload_n 0, 1) := by decide +kernel
theorem dX7_bring_1 : decode cX7_bring 1 = .ok (.getfield 25, 3) := by decide +kernel
theorem dX7_bring_4 : decode cX7_bring 4 = .ok (.bipush 24, 2) := by decide +kernel
theorem dX7_bring_6 : decode cX7_bring 6 = .ok (.iload_n 1, 1) := by decide +kernel
theorem dX7_bring_7 : decode cX7_bring 7 = .ok (.iadd, 1) := by decide +kernel
theorem dX7_bring_8 : decode cX7_bring 8 = .ok (.iload_n 2, 1) := by decide +kernel
theorem dX7_bring_9 : decode cX7_bring 9 = .ok (.iastore, 1) := by decide +kernel
theorem dX7_bring_10 : decode cX7_bring 10 = .ok (.aload_n 0, 1) := by decide +kernel
theorem dX7_bring_11 : decode cX7_bring 11 = .ok (.getfield 25, 3) := by decide +kernel
theorem dX7_bring_14 : decode cX7_bring 14 = .ok (.bipush 54, 2) := by decide +kernel
theorem dX7_bring_16 : decode cX7_bring 16 = .ok (.iload_n 2, 1) := by decide +kernel
theorem dX7_bring_17 : decode cX7_bring 17 = .ok (.iadd, 1) := by decide +kernel
theorem dX7_bring_18 : decode cX7_bring 18 = .ok (.dup2, 1) := by decide +kernel
theorem dX7_bring_19 : decode cX7_bring 19 = .ok (.iaload, 1) := by decide +kernel
theorem dX7_bring_20 : decode cX7_bring 20 = .ok (.aload_n 0, 1) := by decide +kernel
theorem dX7_bring_21 : decode cX7_bring 21 = .ok (.getfield 16, 3) := by decide +kernel
theorem dX7_bring_24 : decode cX7_bring 24 = .ok (.iload_n 1, 1) := by decide +kernel
theorem dX7_bring_25 : decode cX7_bring 25 = .ok (.iaload, 1) := by decide +kernel
theorem dX7_bring_26 : decode cX7_bring 26 = .ok (.aload_n 0, 1) := by decide +kernel
theorem dX7_bring_27 : decode cX7_bring 27 = .ok (.getfield 22, 3) := by decide +kernel
theorem dX7_bring_30 : decode cX7_bring 30 = .ok (.iconst 1, 1) := by decide +kernel
theorem dX7_bring_31 : decode cX7_bring 31 = .ok (.iaload, 1) := by decide +kernel
theorem dX7_bring_32 : decode cX7_bring 32 = .ok (.iadd, 1) := by decide +kernel
theorem dX7_bring_33 : decode cX7_bring 33 = .ok (.iadd, 1) := by decide +kernel
theorem dX7_bring_34 : decode cX7_bring 34 = .ok (.iastore, 1) := by decide +kernel
theorem dX7_bring_35 : decode cX7_bring 35 = .ok (.aload_n 0, 1) := by decide +kernel
theorem dX7_bring_36 : decode cX7_bring 36 = .ok (.getfield 16, 3) := by decide +kernel
theorem dX7_bring_39 : decode cX7_bring 39 = .ok (.iload_n 1, 1) := by decide +kernel
theorem dX7_bring_40 : decode cX7_bring 40 = .ok (.iaload, 1) := by decide +kernel
theorem dX7_bring_41 : decode cX7_bring 41 = .ok (.aload_n 0, 1) := by decide +kernel
theorem dX7_bring_42 : decode cX7_bring 42 = .ok (.getfield 22, 3) := by decide +kernel
theorem dX7_bring_45 : decode cX7_bring 45 = .ok (.iconst 1, 1) := by decide +kernel
theorem dX7_bring_46 : decode cX7_bring 46 = .ok (.iaload, 1) := by decide +kernel
theorem dX7_bring_47 : decode cX7_bring 47 = .ok (.iadd, 1) := by decide +kernel
theorem dX7_bring_48 : decode cX7_bring 48 = .ok (.ireturn, 1) := by decide +kernel
set_option maxRecDepth 20000 in
theorem ggX7_brings_X7_isHouse : GoodIn wsX7_brings wsX7_isHouse := goodIn_r _ [7, 8, 9, 10, 6, 11, 21, 22, 23, 24, 25, 26, 27, 28, 29, 30, 31, 32, 33, 34, 35, 36, 37, 38, 39, 40, 41, 42, 43, 44] (by decide +kernel) (by decide +kernel)
set_option maxRecDepth 20000 in
theorem gX7_brings_X7_isHouse : GoodIn wsX7_brings (wsV RX7 128 RX7 yX7_isHouse wsX7_isHouse) := goodIn_app (goodIn_of _ (by decide +kernel)) ggX7_brings_X7_isHouse
set_option maxRecDepth 20000 in
theorem ggX7_brings_X7_isSort : GoodIn wsX7_brings wsX7_isSort := goodIn_r _ [14, 9, 10, 6, 11] (by decide +kernel) (by decide +kernel)
set_option maxRecDepth 20000 in
theorem gX7_brings_X7_isSort : GoodIn wsX7_brings (va_wsS RX7 132 yX7_isSort wsX7_isSort) := goodIn_app (goodIn_of _ (by decide +kernel)) ggX7_brings_X7_isSort
set_option maxRecDepth 20000 in
theorem ggX7_brings_X7_bring : GoodIn wsX7_brings wsX7_bring := goodIn_r _ [18, 2, 19, 20, 21, 22, 23, 24, 25, 26, 27, 28, 29, 30, 31, 32, 33, 34, 35, 36, 37, 38, 39, 40, 41, 42, 43, 44] (by decide +kernel) (by decide +kernel)
set_option maxRecDepth 20000 in
theorem gX7_brings_X7_bring : GoodIn wsX7_brings (wsV RX7 135 RX7 yX7_bring wsX7_bring) := goodIn_app (goodIn_of _ (by decide +kernel)) ggX7_brings_X7_bring
theorem dX7_brings_0 : decode cX7_brings 0 = .ok (.aload_n 0, 1) := by decide +kernel
theorem dX7_brings_1 : decode cX7_brings 1 = .ok (.iconst 0, 1) := by decide +kernel
theorem dX7_brings_2 : decode cX7_brings 2 = .ok (.putfield 54, 3) := by decide +kernel
theorem dX7_brings_5 : decode cX7_brings 5 = .ok (.aload_n 0, 1) := by decide +kernel
theorem dX7_brings_6 : decode cX7_brings 6 = .ok (.iload_n 1, 1) := by decide +kernel
theorem dX7_brings_7 : decode cX7_brings 7 = .ok (.invokevirtual 128, 3) := by decide +kernel
theorem dX7_brings_10 : decode cX7_brings 10 = .ok (.ifCond .eq 10, 3) := by decide +kernel
theorem dX7_brings_13 : decode cX7_brings 13 = .ok (.iload_n 2, 1) := by decide +kernel
theorem dX7_brings_14 : decode cX7_brings 14 = .ok (.invokestatic 132, 3) := by decide +kernel
theorem dX7_brings_17 : decode cX7_brings 17 = .ok (.ifCond .ne 5, 3) := by decide +kernel
theorem dX7_brings_20 : decode cX7_brings 20 = .ok (.iconst (-1), 1) := by decide +kernel
theorem dX7_brings_21 : decode cX7_brings 21 = .ok (.ireturn, 1) := by decide +kernel
theorem dX7_brings_22 : decode cX7_brings 22 = .ok (.aload_n 0, 1) := by decide +kernel
theorem dX7_brings_23 : decode cX7_brings 23 = .ok (.getfield 25, 3) := by decide +kernel
theorem dX7_brings_26 : decode cX7_brings 26 = .ok (.iconst 4, 1) := by decide +kernel
theorem dX7_brings_27 : decode cX7_brings 27 = .ok (.iload_n 1, 1) := by decide +kernel
theorem dX7_brings_28 : decode cX7_brings 28 = .ok (.imul, 1) := by decide +kernel
theorem dX7_brings_29 : decode cX7_brings 29 = .ok (.iload_n 2, 1) := by decide +kernel
theorem dX7_brings_30 : decode cX7_brings 30 = .ok (.iadd, 1) := by decide +kernel
theorem dX7_brings_31 : decode cX7_brings 31 = .ok (.iaload, 1) := by decide +kernel
theorem dX7_brings_32 : decode cX7_brings 32 = .ok (.ifCond .eq 28, 3) := by decide +kernel
theorem dX7_brings_35 : decode cX7_brings 35 = .ok (.aload_n 0, 1) := by decide +kernel
theorem dX7_brings_36 : decode cX7_brings 36 = .ok (.getfield 25, 3) := by decide +kernel
theorem dX7_brings_39 : decode cX7_brings 39 = .ok (.bipush 24, 2) := by decide +kernel
theorem dX7_brings_41 : decode cX7_brings 41 = .ok (.iload_n 1, 1) := by decide +kernel
theorem dX7_brings_42 : decode cX7_brings 42 = .ok (.iadd, 1) := by decide +kernel
theorem dX7_brings_43 : decode cX7_brings 43 = .ok (.iaload, 1) := by decide +kernel
theorem dX7_brings_44 : decode cX7_brings 44 = .ok (.bipush (-9), 2) := by decide +kernel
theorem dX7_brings_46 : decode cX7_brings 46 = .ok (.if_icmp .ne 14, 3) := by decide +kernel
theorem dX7_brings_49 : decode cX7_brings 49 = .ok (.aload_n 0, 1) := by decide +kernel
theorem dX7_brings_50 : decode cX7_brings 50 = .ok (.getfield 25, 3) := by decide +kernel
theorem dX7_brings_53 : decode cX7_brings 53 = .ok (.bipush 58, 2) := by decide +kernel
theorem dX7_brings_55 : decode cX7_brings 55 = .ok (.iaload, 1) := by decide +kernel
theorem dX7_brings_56 : decode cX7_brings 56 = .ok (.iconst 1, 1) := by decide +kernel
theorem dX7_brings_57 : decode cX7_brings 57 = .ok (.if_icmp .ne 8, 3) := by decide +kernel
theorem dX7_brings_60 : decode cX7_brings 60 = .ok (.bipush (-2), 2) := by decide +kernel
theorem dX7_brings_62 : decode cX7_brings 62 = .ok (.goto 9, 3) := by decide +kernel
theorem dX7_brings_65 : decode cX7_brings 65 = .ok (.aload_n 0, 1) := by decide +kernel
theorem dX7_brings_66 : decode cX7_brings 66 = .ok (.iload_n 1, 1) := by decide +kernel
theorem dX7_brings_67 : decode cX7_brings 67 = .ok (.iload_n 2, 1) := by decide +kernel
theorem dX7_brings_68 : decode cX7_brings 68 = .ok (.invokevirtual 135, 3) := by decide +kernel
theorem dX7_brings_71 : decode cX7_brings 71 = .ok (.ireturn, 1) := by decide +kernel
theorem dX7_broughtBy_0 : decode cX7_broughtBy 0 = .ok (.iconst 0, 1) := by decide +kernel
theorem dX7_broughtBy_1 : decode cX7_broughtBy 1 = .ok (.istore_n 2, 1) := by decide +kernel
theorem dX7_broughtBy_2 : decode cX7_broughtBy 2 = .ok (.iconst 0, 1) := by decide +kernel
theorem dX7_broughtBy_3 : decode cX7_broughtBy 3 = .ok (.istore_n 3, 1) := by decide +kernel
theorem dX7_broughtBy_4 : decode cX7_broughtBy 4 = .ok (.iload_n 3, 1) := by decide +kernel
theorem dX7_broughtBy_5 : decode cX7_broughtBy 5 = .ok (.aload_n 0, 1) := by decide +kernel
theorem dX7_broughtBy_6 : decode cX7_broughtBy 6 = .ok (.getfield 122, 3) := by decide +kernel
theorem dX7_broughtBy_9 : decode cX7_broughtBy 9 = .ok (.if_icmp .ge 30, 3) := by decide +kernel
theorem dX7_broughtBy_12 : decode cX7_broughtBy 12 = .ok (.iload_n 2, 1) := by decide +kernel
theorem dX7_broughtBy_13 : decode cX7_broughtBy 13 = .ok (.aload_n 0, 1) := by decide +kernel
theorem dX7_broughtBy_14 : decode cX7_broughtBy 14 = .ok (.getfield 25, 3) := by decide +kernel
theorem dX7_broughtBy_17 : decode cX7_broughtBy 17 = .ok (.bipush 24, 2) := by decide +kernel
theorem dX7_broughtBy_19 : decode cX7_broughtBy 19 = .ok (.iload_n 3, 1) := by decide +kernel
theorem dX7_broughtBy_20 : decode cX7_broughtBy 20 = .ok (.iadd, 1) := by decide +kernel
theorem dX7_broughtBy_21 : decode cX7_broughtBy 21 = .ok (.iaload, 1) := by decide +kernel
theorem dX7_broughtBy_22 : decode cX7_broughtBy 22 = .ok (.iload_n 1, 1) := by decide +kernel
theorem dX7_broughtBy_23 : decode cX7_broughtBy 23 = .ok (.if_icmp .ne 7, 3) := by decide +kernel
theorem dX7_broughtBy_26 : decode cX7_broughtBy 26 = .ok (.iconst 1, 1) := by decide +kernel
theorem dX7_broughtBy_27 : decode cX7_broughtBy 27 = .ok (.goto 4, 3) := by decide +kernel
theorem dX7_broughtBy_30 : decode cX7_broughtBy 30 = .ok (.iconst 0, 1) := by decide +kernel
theorem dX7_broughtBy_31 : decode cX7_broughtBy 31 = .ok (.iadd, 1) := by decide +kernel
theorem dX7_broughtBy_32 : decode cX7_broughtBy 32 = .ok (.istore_n 2, 1) := by decide +kernel
theorem dX7_broughtBy_33 : decode cX7_broughtBy 33 = .ok (.iinc 3 1, 3) := by decide +kernel
theorem dX7_broughtBy_36 : decode cX7_broughtBy 36 = .ok (.goto (-32), 3) := by decide +kernel
theorem dX7_broughtBy_39 : decode cX7_broughtBy 39 = .ok (.iload_n 2, 1) := by decide +kernel
theorem dX7_broughtBy_40 : decode cX7_broughtBy 40 = .ok (.ireturn, 1) := by decide +kernel
set_option maxRecDepth 20000 in
theorem ggX7_drawn_X7_weightsOf : GoodIn wsX7_drawn wsX7_weightsOf := goodIn_r _ [8, 1, 9, 10, 11, 12, 13, 14, 15, 16, 17, 18, 19, 20, 21, 22, 23, 24, 25, 26, 27, 28, 29, 30, 31, 32] (by decide +kernel) (by decide +kernel)
set_option maxRecDepth 20000 in
theorem gX7_drawn_X7_weightsOf : GoodIn wsX7_drawn (wsV RX7 140 RX7 yX7_weightsOf wsX7_weightsOf) := goodIn_app (goodIn_of _ (by decide +kernel)) ggX7_drawn_X7_weightsOf
theorem dX7_drawn_0 : decode cX7_drawn 0 = .ok (.aload_n 0, 1) := by decide +kernel
theorem dX7_drawn_1 : decode cX7_drawn 1 = .ok (.getfield 25, 3) := by decide +kernel
theorem dX7_drawn_4 : decode cX7_drawn 4 = .ok (.bipush 66, 2) := by decide +kernel
theorem dX7_drawn_6 : decode cX7_drawn 6 = .ok (.aload_n 0, 1) := by decide +kernel
theorem dX7_drawn_7 : decode cX7_drawn 7 = .ok (.getfield 25, 3) := by decide +kernel
theorem dX7_drawn_10 : decode cX7_drawn 10 = .ok (.bipush 66, 2) := by decide +kernel
theorem dX7_drawn_12 : decode cX7_drawn 12 = .ok (.iaload, 1) := by decide +kernel
theorem dX7_drawn_13 : decode cX7_drawn 13 = .ok (.ldc 138, 2) := by decide +kernel
theorem dX7_drawn_15 : decode cX7_drawn 15 = .ok (.imul, 1) := by decide +kernel
theorem dX7_drawn_16 : decode cX7_drawn 16 = .ok (.sipush 12345, 3) := by decide +kernel
theorem dX7_drawn_19 : decode cX7_drawn 19 = .ok (.iadd, 1) := by decide +kernel
theorem dX7_drawn_20 : decode cX7_drawn 20 = .ok (.iastore, 1) := by decide +kernel
theorem dX7_drawn_21 : decode cX7_drawn 21 = .ok (.aload_n 0, 1) := by decide +kernel
theorem dX7_drawn_22 : decode cX7_drawn 22 = .ok (.getfield 25, 3) := by decide +kernel
theorem dX7_drawn_25 : decode cX7_drawn 25 = .ok (.bipush 66, 2) := by decide +kernel
theorem dX7_drawn_27 : decode cX7_drawn 27 = .ok (.iaload, 1) := by decide +kernel
theorem dX7_drawn_28 : decode cX7_drawn 28 = .ok (.bipush 16, 2) := by decide +kernel
theorem dX7_drawn_30 : decode cX7_drawn 30 = .ok (.ishr, 1) := by decide +kernel
theorem dX7_drawn_31 : decode cX7_drawn 31 = .ok (.ldc 139, 2) := by decide +kernel
theorem dX7_drawn_33 : decode cX7_drawn 33 = .ok (.iand, 1) := by decide +kernel
theorem dX7_drawn_34 : decode cX7_drawn 34 = .ok (.aload_n 0, 1) := by decide +kernel
theorem dX7_drawn_35 : decode cX7_drawn 35 = .ok (.iload_n 1, 1) := by decide +kernel
theorem dX7_drawn_36 : decode cX7_drawn 36 = .ok (.invokevirtual 140, 3) := by decide +kernel
theorem dX7_drawn_39 : decode cX7_drawn 39 = .ok (.irem, 1) := by decide +kernel
theorem dX7_drawn_40 : decode cX7_drawn 40 = .ok (.istore_n 2, 1) := by decide +kernel
theorem dX7_drawn_41 : decode cX7_drawn 41 = .ok (.iconst 0, 1) := by decide +kernel
theorem dX7_drawn_42 : decode cX7_drawn 42 = .ok (.istore_n 3, 1) := by decide +kernel
theorem dX7_drawn_43 : decode cX7_drawn 43 = .ok (.iconst 0, 1) := by decide +kernel
theorem dX7_drawn_44 : decode cX7_drawn 44 = .ok (.istore 4, 2) := by decide +kernel
theorem dX7_drawn_46 : decode cX7_drawn 46 = .ok (.iload 4, 2) := by decide +kernel
theorem dX7_drawn_48 : decode cX7_drawn 48 = .ok (.iconst 4, 1) := by decide +kernel
theorem dX7_drawn_49 : decode cX7_drawn 49 = .ok (.if_icmp .ge 31, 3) := by decide +kernel
theorem dX7_drawn_52 : decode cX7_drawn 52 = .ok (.iload_n 3, 1) := by decide +kernel
theorem dX7_drawn_53 : decode cX7_drawn 53 = .ok (.aload_n 0, 1) := by decide +kernel
theorem dX7_drawn_54 : decode cX7_drawn 54 = .ok (.getfield 25, 3) := by decide +kernel
theorem dX7_drawn_57 : decode cX7_drawn 57 = .ok (.iconst 4, 1) := by decide +kernel
theorem dX7_drawn_58 : decode cX7_drawn 58 = .ok (.iload_n 1, 1) := by decide +kernel
theorem dX7_drawn_59 : decode cX7_drawn 59 = .ok (.imul, 1) := by decide +kernel
theorem dX7_drawn_60 : decode cX7_drawn 60 = .ok (.iload 4, 2) := by decide +kernel
theorem dX7_drawn_62 : decode cX7_drawn 62 = .ok (.iadd, 1) := by decide +kernel
theorem dX7_drawn_63 : decode cX7_drawn 63 = .ok (.iaload, 1) := by decide +kernel
theorem dX7_drawn_64 : decode cX7_drawn 64 = .ok (.iadd, 1) := by decide +kernel
theorem dX7_drawn_65 : decode cX7_drawn 65 = .ok (.istore_n 3, 1) := by decide +kernel
theorem dX7_drawn_66 : decode cX7_drawn 66 = .ok (.iload_n 3, 1) := by decide +kernel
theorem dX7_drawn_67 : decode cX7_drawn 67 = .ok (.iload_n 2, 1) := by decide +kernel
theorem dX7_drawn_68 : decode cX7_drawn 68 = .ok (.if_icmp .le 6, 3) := by decide +kernel
theorem dX7_drawn_71 : decode cX7_drawn 71 = .ok (.iload 4, 2) := by decide +kernel
theorem dX7_drawn_73 : decode cX7_drawn 73 = .ok (.ireturn, 1) := by decide +kernel
theorem dX7_drawn_74 : decode cX7_drawn 74 = .ok (.iinc 4 1, 3) := by decide +kernel
theorem dX7_drawn_77 : decode cX7_drawn 77 = .ok (.goto (-31), 3) := by decide +kernel
theorem dX7_drawn_80 : decode cX7_drawn 80 = .ok (.bipush (-9), 2) := by decide +kernel
theorem dX7_drawn_82 : decode cX7_drawn 82 = .ok (.ireturn, 1) := by decide +kernel
theorem dX7_byLetters_0 : decode cX7_byLetters 0 = .ok (.iload_n 1, 1) := by decide +kernel
theorem dX7_byLetters_1 : decode cX7_byLetters 1 = .ok (.iconst 4, 1) := by decide +kernel
theorem dX7_byLetters_2 : decode cX7_byLetters 2 = .ok (.irem, 1) := by decide +kernel
