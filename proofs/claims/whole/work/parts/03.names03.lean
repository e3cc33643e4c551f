theorem dX2_next_54 : decode cX2_next 54 = .ok (.if_icmp .lt 11, 3) := by decide +kernel
theorem dX2_next_57 : decode cX2_next 57 = .ok (.aload_n 0, 1) := by decide +kernel
theorem dX2_next_58 : decode cX2_next 58 = .ok (.iconst 0, 1) := by decide +kernel
theorem dX2_next_59 : decode cX2_next 59 = .ok (.putfield 36, 3) := by decide +kernel
theorem dX2_next_62 : decode cX2_next 62 = .ok (.goto 80, 3) := by decide +kernel
theorem dX2_next_65 : decode cX2_next 65 = .ok (.aload_n 0, 1) := by decide +kernel
theorem dX2_next_66 : decode cX2_next 66 = .ok (.getfield 9, 3) := by decide +kernel
theorem dX2_next_69 : decode cX2_next 69 = .ok (.aload_n 0, 1) := by decide +kernel
theorem dX2_next_70 : decode cX2_next 70 = .ok (.getfield 30, 3) := by decide +kernel
theorem dX2_next_73 : decode cX2_next 73 = .ok (.baload, 1) := by decide +kernel
theorem dX2_next_74 : decode cX2_next 74 = .ok (.invokestatic 98, 3) := by decide +kernel
theorem dX2_next_77 : decode cX2_next 77 = .ok (.ifCond .eq 10, 3) := by decide +kernel
theorem dX2_next_80 : decode cX2_next 80 = .ok (.aload_n 0, 1) := by decide +kernel
theorem dX2_next_81 : decode cX2_next 81 = .ok (.invokevirtual 102, 3) := by decide +kernel
theorem dX2_next_84 : decode cX2_next 84 = .ok (.goto 58, 3) := by decide +kernel
theorem dX2_next_87 : decode cX2_next 87 = .ok (.aload_n 0, 1) := by decide +kernel
theorem dX2_next_88 : decode cX2_next 88 = .ok (.getfield 9, 3) := by decide +kernel
theorem dX2_next_91 : decode cX2_next 91 = .ok (.aload_n 0, 1) := by decide +kernel
theorem dX2_next_92 : decode cX2_next 92 = .ok (.getfield 30, 3) := by decide +kernel
theorem dX2_next_95 : decode cX2_next 95 = .ok (.baload, 1) := by decide +kernel
theorem dX2_next_96 : decode cX2_next 96 = .ok (.invokestatic 105, 3) := by decide +kernel
theorem dX2_next_99 : decode cX2_next 99 = .ok (.ifCond .eq 10, 3) := by decide +kernel
theorem dX2_next_102 : decode cX2_next 102 = .ok (.aload_n 0, 1) := by decide +kernel
theorem dX2_next_103 : decode cX2_next 103 = .ok (.invokevirtual 108, 3) := by decide +kernel
theorem dX2_next_106 : decode cX2_next 106 = .ok (.goto 36, 3) := by decide +kernel
theorem dX2_next_109 : decode cX2_next 109 = .ok (.aload_n 0, 1) := by decide +kernel
theorem dX2_next_110 : decode cX2_next 110 = .ok (.aload_n 0, 1) := by decide +kernel
theorem dX2_next_111 : decode cX2_next 111 = .ok (.getfield 9, 3) := by decide +kernel
theorem dX2_next_114 : decode cX2_next 114 = .ok (.aload_n 0, 1) := by decide +kernel
theorem dX2_next_115 : decode cX2_next 115 = .ok (.getfield 30, 3) := by decide +kernel
theorem dX2_next_118 : decode cX2_next 118 = .ok (.baload, 1) := by decide +kernel
theorem dX2_next_119 : decode cX2_next 119 = .ok (.bipush 59, 2) := by decide +kernel
theorem dX2_next_121 : decode cX2_next 121 = .ok (.if_icmp .ne 7, 3) := by decide +kernel
theorem dX2_next_124 : decode cX2_next 124 = .ok (.iconst 3, 1) := by decide +kernel
theorem dX2_next_125 : decode cX2_next 125 = .ok (.goto 4, 3) := by decide +kernel
theorem dX2_next_128 : decode cX2_next 128 = .ok (.iconst 1, 1) := by decide +kernel
theorem dX2_next_129 : decode cX2_next 129 = .ok (.putfield 36, 3) := by decide +kernel
theorem dX2_next_132 : decode cX2_next 132 = .ok (.aload_n 0, 1) := by decide +kernel
theorem dX2_next_133 : decode cX2_next 133 = .ok (.dup, 1) := by decide +kernel
theorem dX2_next_134 : decode cX2_next 134 = .ok (.getfield 30, 3) := by decide +kernel
theorem dX2_next_137 : decode cX2_next 137 = .ok (.iconst 1, 1) := by decide +kernel
theorem dX2_next_138 : decode cX2_next 138 = .ok (.iadd, 1) := by decide +kernel
theorem dX2_next_139 : decode cX2_next 139 = .ok (.putfield 30, 3) := by decide +kernel
theorem dX2_next_142 : decode cX2_next 142 = .ok (.return_, 1) := by decide +kernel
set_option maxRecDepth 20000 in
theorem ggX2_nextWord_X2_isLetter : GoodIn wsX2_nextWord wsX2_isLetter := goodIn_r _ [8] (by decide +kernel) (by decide +kernel)
set_option maxRecDepth 20000 in
theorem gX2_nextWord_X2_isLetter : GoodIn wsX2_nextWord (va_wsS RX2 98 yX2_isLetter wsX2_isLetter) := goodIn_app (goodIn_of _ (by decide +kernel)) ggX2_nextWord_X2_isLetter
set_option maxRecDepth 20000 in
theorem ggX2_nextWord_X2_isWord : GoodIn wsX2_nextWord wsX2_isWord := goodIn_r _ [12, 1, 13, 3, 14, 15, 16, 17, 18, 19, 20, 21, 22, 23, 24, 25, 26, 27, 28, 29, 30, 31, 32, 33, 34, 35, 36, 37, 38, 39, 40, 41, 42, 43, 44, 45, 46, 47, 48, 49, 50, 51, 52, 53, 54, 55, 56, 57, 58, 59, 60, 61, 62, 63, 64, 65, 66, 67, 68, 69, 70, 71, 72, 73] (by decide +kernel) (by decide +kernel)
set_option maxRecDepth 20000 in
theorem gX2_nextWord_X2_isWord : GoodIn wsX2_nextWord (wsV RX2 113 RX2 yX2_isWord wsX2_isWord) := goodIn_app (goodIn_of _ (by decide +kernel)) ggX2_nextWord_X2_isWord
theorem dX2_nextWord_0 : decode cX2_nextWord 0 = .ok (.aload_n 0, 1) := by decide +kernel
theorem dX2_nextWord_1 : decode cX2_nextWord 1 = .ok (.getfield 30, 3) := by decide +kernel
theorem dX2_nextWord_4 : decode cX2_nextWord 4 = .ok (.aload_n 0, 1) := by decide +kernel
theorem dX2_nextWord_5 : decode cX2_nextWord 5 = .ok (.getfield 26, 3) := by decide +kernel
theorem dX2_nextWord_8 : decode cX2_nextWord 8 = .ok (.if_icmp .ge 31, 3) := by decide +kernel
theorem dX2_nextWord_11 : decode cX2_nextWord 11 = .ok (.aload_n 0, 1) := by decide +kernel
theorem dX2_nextWord_12 : decode cX2_nextWord 12 = .ok (.getfield 9, 3) := by decide +kernel
theorem dX2_nextWord_15 : decode cX2_nextWord 15 = .ok (.aload_n 0, 1) := by decide +kernel
theorem dX2_nextWord_16 : decode cX2_nextWord 16 = .ok (.getfield 30, 3) := by decide +kernel
theorem dX2_nextWord_19 : decode cX2_nextWord 19 = .ok (.baload, 1) := by decide +kernel
theorem dX2_nextWord_20 : decode cX2_nextWord 20 = .ok (.invokestatic 98, 3) := by decide +kernel
theorem dX2_nextWord_23 : decode cX2_nextWord 23 = .ok (.ifCond .eq 16, 3) := by decide +kernel
theorem dX2_nextWord_26 : decode cX2_nextWord 26 = .ok (.aload_n 0, 1) := by decide +kernel
theorem dX2_nextWord_27 : decode cX2_nextWord 27 = .ok (.dup, 1) := by decide +kernel
theorem dX2_nextWord_28 : decode cX2_nextWord 28 = .ok (.getfield 30, 3) := by decide +kernel
theorem dX2_nextWord_31 : decode cX2_nextWord 31 = .ok (.iconst 1, 1) := by decide +kernel
theorem dX2_nextWord_32 : decode cX2_nextWord 32 = .ok (.iadd, 1) := by decide +kernel
theorem dX2_nextWord_33 : decode cX2_nextWord 33 = .ok (.putfield 30, 3) := by decide +kernel
theorem dX2_nextWord_36 : decode cX2_nextWord 36 = .ok (.goto (-36), 3) := by decide +kernel
theorem dX2_nextWord_39 : decode cX2_nextWord 39 = .ok (.aload_n 0, 1) := by decide +kernel
theorem dX2_nextWord_40 : decode cX2_nextWord 40 = .ok (.ldc 111, 2) := by decide +kernel
theorem dX2_nextWord_42 : decode cX2_nextWord 42 = .ok (.invokevirtual 113, 3) := by decide +kernel
theorem dX2_nextWord_45 : decode cX2_nextWord 45 = .ok (.ifCond .eq 11, 3) := by decide +kernel
theorem dX2_nextWord_48 : decode cX2_nextWord 48 = .ok (.aload_n 0, 1) := by decide +kernel
theorem dX2_nextWord_49 : decode cX2_nextWord 49 = .ok (.iconst 4, 1) := by decide +kernel
theorem dX2_nextWord_50 : decode cX2_nextWord 50 = .ok (.putfield 36, 3) := by decide +kernel
theorem dX2_nextWord_53 : decode cX2_nextWord 53 = .ok (.goto 79, 3) := by decide +kernel
theorem dX2_nextWord_56 : decode cX2_nextWord 56 = .ok (.aload_n 0, 1) := by decide +kernel
theorem dX2_nextWord_57 : decode cX2_nextWord 57 = .ok (.ldc 117, 2) := by decide +kernel
theorem dX2_nextWord_59 : decode cX2_nextWord 59 = .ok (.invokevirtual 113, 3) := by decide +kernel
theorem dX2_nextWord_62 : decode cX2_nextWord 62 = .ok (.ifCond .eq 11, 3) := by decide +kernel
theorem dX2_nextWord_65 : decode cX2_nextWord 65 = .ok (.aload_n 0, 1) := by decide +kernel
theorem dX2_nextWord_66 : decode cX2_nextWord 66 = .ok (.iconst 5, 1) := by decide +kernel
theorem dX2_nextWord_67 : decode cX2_nextWord 67 = .ok (.putfield 36, 3) := by decide +kernel
theorem dX2_nextWord_70 : decode cX2_nextWord 70 = .ok (.goto 62, 3) := by decide +kernel
theorem dX2_nextWord_73 : decode cX2_nextWord 73 = .ok (.aload_n 0, 1) := by decide +kernel
theorem dX2_nextWord_74 : decode cX2_nextWord 74 = .ok (.ldc 118, 2) := by decide +kernel
theorem dX2_nextWord_76 : decode cX2_nextWord 76 = .ok (.invokevirtual 113, 3) := by decide +kernel
theorem dX2_nextWord_79 : decode cX2_nextWord 79 = .ok (.ifCond .eq 12, 3) := by decide +kernel
theorem dX2_nextWord_82 : decode cX2_nextWord 82 = .ok (.aload_n 0, 1) := by decide +kernel
theorem dX2_nextWord_83 : decode cX2_nextWord 83 = .ok (.bipush 6, 2) := by decide +kernel
theorem dX2_nextWord_85 : decode cX2_nextWord 85 = .ok (.putfield 36, 3) := by decide +kernel
theorem dX2_nextWord_88 : decode cX2_nextWord 88 = .ok (.goto 44, 3) := by decide +kernel
theorem dX2_nextWord_91 : decode cX2_nextWord 91 = .ok (.aload_n 0, 1) := by decide +kernel
theorem dX2_nextWord_92 : decode cX2_nextWord 92 = .ok (.ldc 119, 2) := by decide +kernel
theorem dX2_nextWord_94 : decode cX2_nextWord 94 = .ok (.invokevirtual 113, 3) := by decide +kernel
theorem dX2_nextWord_97 : decode cX2_nextWord 97 = .ok (.ifCond .eq 12, 3) := by decide +kernel
theorem dX2_nextWord_100 : decode cX2_nextWord 100 = .ok (.aload_n 0, 1) := by decide +kernel
theorem dX2_nextWord_101 : decode cX2_nextWord 101 = .ok (.bipush 7, 2) := by decide +kernel
theorem dX2_nextWord_103 : decode cX2_nextWord 103 = .ok (.putfield 36, 3) := by decide +kernel
theorem dX2_nextWord_106 : decode cX2_nextWord 106 = .ok (.goto 26, 3) := by decide +kernel
theorem dX2_nextWord_109 : decode cX2_nextWord 109 = .ok (.aload_n 0, 1) := by decide +kernel
theorem dX2_nextWord_110 : decode cX2_nextWord 110 = .ok (.ldc 120, 2) := by decide +kernel
theorem dX2_nextWord_112 : decode cX2_nextWord 112 = .ok (.invokevirtual 113, 3) := by decide +kernel
theorem dX2_nextWord_115 : decode cX2_nextWord 115 = .ok (.ifCond .eq 12, 3) := by decide +kernel
theorem dX2_nextWord_118 : decode cX2_nextWord 118 = .ok (.aload_n 0, 1) := by decide +kernel
theorem dX2_nextWord_119 : decode cX2_nextWord 119 = .ok (.bipush 8, 2) := by decide +kernel
theorem dX2_nextWord_121 : decode cX2_nextWord 121 = .ok (.putfield 36, 3) := by decide +kernel
theorem dX2_nextWord_124 : decode cX2_nextWord 124 = .ok (.goto 8, 3) := by decide +kernel
theorem dX2_nextWord_127 : decode cX2_nextWord 127 = .ok (.aload_n 0, 1) := by decide +kernel
theorem dX2_nextWord_128 : decode cX2_nextWord 128 = .ok (.iconst 1, 1) := by decide +kernel
theorem dX2_nextWord_129 : decode cX2_nextWord 129 = .ok (.putfield 36, 3) := by decide +kernel
theorem dX2_nextWord_132 : decode cX2_nextWord 132 = .ok (.return_, 1) := by decide +kernel
set_option maxRecDepth 20000 in
theorem ggX2_isWord_J0_length_8abf5 : GoodIn wsX2_isWord wsJ0_length_8abf5 := goodIn_r _ [8, 9, 10, 11, 12, 7, 13, 14, 15] (by decide +kernel) (by decide +kernel)
set_option maxRecDepth 20000 in
theorem gX2_isWord_J0_length_8abf5 : GoodIn wsX2_isWord (wsV RX2 121 RJ0 yJ0_length_8abf5 wsJ0_length_8abf5) := goodIn_app (goodIn_of _ (by decide +kernel)) ggX2_isWord_J0_length_8abf5
set_option maxRecDepth 20000 in
theorem ggX2_isWord_J0_charAt_5068e : GoodIn wsX2_isWord wsJ0_charAt_5068e := goodIn_r _ [19, 9, 20, 21, 22, 7, 23, 14, 15, 24, 25, 26, 27, 28, 29, 30, 31, 32, 33, 34, 35, 36, 37, 38, 39, 40, 41, 42, 43, 44, 45, 46, 47, 48, 49, 50, 51, 52] (by decide +kernel) (by decide +kernel)
set_option maxRecDepth 20000 in
theorem gX2_isWord_J0_charAt_5068e : GoodIn wsX2_isWord (wsV RX2 125 RJ0 yJ0_charAt_5068e wsJ0_charAt_5068e) := goodIn_app (goodIn_of _ (by decide +kernel)) ggX2_isWord_J0_charAt_5068e
theorem dX2_isWord_0 : decode cX2_isWord 0 = .ok (.aload_n 0, 1) := by decide +kernel
theorem dX2_isWord_1 : decode cX2_isWord 1 = .ok (.getfield 30, 3) := by decide +kernel
theorem dX2_isWord_4 : decode cX2_isWord 4 = .ok (.aload_n 0, 1) := by decide +kernel
theorem dX2_isWord_5 : decode cX2_isWord 5 = .ok (.getfield 33, 3) := by decide +kernel
theorem dX2_isWord_8 : decode cX2_isWord 8 = .ok (.isub, 1) := by decide +kernel
theorem dX2_isWord_9 : decode cX2_isWord 9 = .ok (.aload_n 1, 1) := by decide +kernel
theorem dX2_isWord_10 : decode cX2_isWord 10 = .ok (.invokevirtual 121, 3) := by decide +kernel
theorem dX2_isWord_13 : decode cX2_isWord 13 = .ok (.if_icmp .eq 5, 3) := by decide +kernel
theorem dX2_isWord_16 : decode cX2_isWord 16 = .ok (.iconst 0, 1) := by decide +kernel
theorem dX2_isWord_17 : decode cX2_isWord 17 = .ok (.ireturn, 1) := by decide +kernel
theorem dX2_isWord_18 : decode cX2_isWord 18 = .ok (.iconst 0, 1) := by decide +kernel
theorem dX2_isWord_19 : decode cX2_isWord 19 = .ok (.istore_n 2, 1) := by decide +kernel
theorem dX2_isWord_20 : decode cX2_isWord 20 = .ok (.iload_n 2, 1) := by decide +kernel
theorem dX2_isWord_21 : decode cX2_isWord 21 = .ok (.aload_n 1, 1) := by decide +kernel
theorem dX2_isWord_22 : decode cX2_isWord 22 = .ok (.invokevirtual 121, 3) := by decide +kernel
theorem dX2_isWord_25 : decode cX2_isWord 25 = .ok (.if_icmp .ge 30, 3) := by decide +kernel
theorem dX2_isWord_28 : decode cX2_isWord 28 = .ok (.aload_n 0, 1) := by decide +kernel
theorem dX2_isWord_29 : decode cX2_isWord 29 = .ok (.getfield 9, 3) := by decide +kernel
theorem dX2_isWord_32 : decode cX2_isWord 32 = .ok (.aload_n 0, 1) := by decide +kernel
theorem dX2_isWord_33 : decode cX2_isWord 33 = .ok (.getfield 33, 3) := by decide +kernel
theorem dX2_isWord_36 : decode cX2_isWord 36 = .ok (.iload_n 2, 1) := by decide +kernel
theorem dX2_isWord_37 : decode cX2_isWord 37 = .ok (.iadd, 1) := by decide +kernel
theorem dX2_isWord_38 : decode cX2_isWord 38 = .ok (.baload, 1) := by decide +kernel
theorem dX2_isWord_39 : decode cX2_isWord 39 = .ok (.aload_n 1, 1) := by decide +kernel
theorem dX2_isWord_40 : decode cX2_isWord 40 = .ok (.iload_n 2, 1) := by decide +kernel
theorem dX2_isWord_41 : decode cX2_isWord 41 = .ok (.invokevirtual 125, 3) := by decide +kernel
theorem dX2_isWord_44 : decode cX2_isWord 44 = .ok (.if_icmp .eq 5, 3) := by decide +kernel
theorem dX2_isWord_47 : decode cX2_isWord 47 = .ok (.iconst 0, 1) := by decide +kernel
theorem dX2_isWord_48 : decode cX2_isWord 48 = .ok (.ireturn, 1) := by decide +kernel
theorem dX2_isWord_49 : decode cX2_isWord 49 = .ok (.iinc 2 1, 3) := by decide +kernel
theorem dX2_isWord_52 : decode cX2_isWord 52 = .ok (.goto (-32), 3) := by decide +kernel
theorem dX2_isWord_55 : decode cX2_isWord 55 = .ok (.iconst 1, 1) := by decide +kernel
theorem dX2_isWord_56 : decode cX2_isWord 56 = .ok (.ireturn, 1) := by decide +kernel
set_option maxRecDepth 20000 in
theorem ggX2_nextNumber_X2_isDigit : GoodIn wsX2_nextNumber wsX2_isDigit := goodIn_r _ [14] (by decide +kernel) (by decide +kernel)
set_option maxRecDepth 20000 in
theorem gX2_nextNumber_X2_isDigit : GoodIn wsX2_nextNumber (va_wsS RX2 105 yX2_isDigit wsX2_isDigit) := goodIn_app (goodIn_of _ (by decide +kernel)) ggX2_nextNumber_X2_isDigit
theorem dX2_nextNumber_0 : decode cX2_nextNumber 0 = .ok (.aload_n 0, 1) := by decide +kernel
theorem dX2_nextNumber_1 : decode cX2_nextNumber 1 = .ok (.iconst 0, 1) := by decide +kernel
theorem dX2_nextNumber_2 : decode cX2_nextNumber 2 = .ok (.putfield 39, 3) := by decide +kernel
theorem dX2_nextNumber_5 : decode cX2_nextNumber 5 = .ok (.aload_n 0, 1) := by decide +kernel
theorem dX2_nextNumber_6 : decode cX2_nextNumber 6 = .ok (.getfield 30, 3) := by decide +kernel
theorem dX2_nextNumber_9 : decode cX2_nextNumber 9 = .ok (.aload_n 0, 1) := by decide +kernel
theorem dX2_nextNumber_10 : decode cX2_nextNumber 10 = .ok (.getfield 26, 3) := by decide +kernel
theorem dX2_nextNumber_13 : decode cX2_nextNumber 13 = .ok (.if_icmp .ge 60, 3) := by decide +kernel
theorem dX2_nextNumber_16 : decode cX2_nextNumber 16 = .ok (.aload_n 0, 1) := by decide +kernel
theorem dX2_nextNumber_17 : decode cX2_nextNumber 17 = .ok (.getfield 9, 3) := by decide +kernel
theorem dX2_nextNumber_20 : decode cX2_nextNumber 20 = .ok (.aload_n 0, 1) := by decide +kernel
theorem dX2_nextNumber_21 : decode cX2_nextNumber 21 = .ok (.getfield 30, 3) := by decide +kernel
theorem dX2_nextNumber_24 : decode cX2_nextNumber 24 = .ok (.baload, 1) := by decide +kernel
theorem dX2_nextNumber_25 : decode cX2_nextNumber 25 = .ok (.invokestatic 105, 3) := by decide +kernel
theorem dX2_nextNumber_28 : decode cX2_nextNumber 28 = .ok (.ifCond .eq 45, 3) := by decide +kernel
theorem dX2_nextNumber_31 : decode cX2_nextNumber 31 = .ok (.aload_n 0, 1) := by decide +kernel
theorem dX2_nextNumber_32 : decode cX2_nextNumber 32 = .ok (.bipush 100, 2) := by decide +kernel
theorem dX2_nextNumber_34 : decode cX2_nextNumber 34 = .ok (.aload_n 0, 1) := by decide +kernel
theorem dX2_nextNumber_35 : decode cX2_nextNumber 35 = .ok (.getfield 39, 3) := by decide +kernel
theorem dX2_nextNumber_38 : decode cX2_nextNumber 38 = .ok (.bipush 10, 2) := by decide +kernel
theorem dX2_nextNumber_40 : decode cX2_nextNumber 40 = .ok (.imul, 1) := by decide +kernel
theorem dX2_nextNumber_41 : decode cX2_nextNumber 41 = .ok (.aload_n 0, 1) := by decide +kernel
theorem dX2_nextNumber_42 : decode cX2_nextNumber 42 = .ok (.getfield 9, 3) := by decide +kernel
theorem dX2_nextNumber_45 : decode cX2_nextNumber 45 = .ok (.aload_n 0, 1) := by decide +kernel
theorem dX2_nextNumber_46 : decode cX2_nextNumber 46 = .ok (.getfield 30, 3) := by decide +kernel
theorem dX2_nextNumber_49 : decode cX2_nextNumber 49 = .ok (.baload, 1) := by decide +kernel
theorem dX2_nextNumber_50 : decode cX2_nextNumber 50 = .ok (.iadd, 1) := by decide +kernel
theorem dX2_nextNumber_51 : decode cX2_nextNumber 51 = .ok (.bipush 48, 2) := by decide +kernel
theorem dX2_nextNumber_53 : decode cX2_nextNumber 53 = .ok (.isub, 1) := by decide +kernel
theorem dX2_nextNumber_54 : decode cX2_nextNumber 54 = .ok (.invokestatic 129, 3) := by decide +kernel
theorem dX2_nextNumber_57 : decode cX2_nextNumber 57 = .ok (.putfield 39, 3) := by decide +kernel
theorem dX2_nextNumber_60 : decode cX2_nextNumber 60 = .ok (.aload_n 0, 1) := by decide +kernel
theorem dX2_nextNumber_61 : decode cX2_nextNumber 61 = .ok (.dup, 1) := by decide +kernel
theorem dX2_nextNumber_62 : decode cX2_nextNumber 62 = .ok (.getfield 30, 3) := by decide +kernel
theorem dX2_nextNumber_65 : decode cX2_nextNumber 65 = .ok (.iconst 1, 1) := by decide +kernel
theorem dX2_nextNumber_66 : decode cX2_nextNumber 66 = .ok (.iadd, 1) := by decide +kernel
theorem dX2_nextNumber_67 : decode cX2_nextNumber 67 = .ok (.putfield 30, 3) := by decide +kernel
theorem dX2_nextNumber_70 : decode cX2_nextNumber 70 = .ok (.goto (-65), 3) := by decide +kernel
theorem dX2_nextNumber_73 : decode cX2_nextNumber 73 = .ok (.aload_n 0, 1) := by decide +kernel
theorem dX2_nextNumber_74 : decode cX2_nextNumber 74 = .ok (.getfield 30, 3) := by decide +kernel
theorem dX2_nextNumber_77 : decode cX2_nextNumber 77 = .ok (.aload_n 0, 1) := by decide +kernel
theorem dX2_nextNumber_78 : decode cX2_nextNumber 78 = .ok (.getfield 33, 3) := by decide +kernel
theorem dX2_nextNumber_81 : decode cX2_nextNumber 81 = .ok (.isub, 1) := by decide +kernel
theorem dX2_nextNumber_82 : decode cX2_nextNumber 82 = .ok (.iconst 1, 1) := by decide +kernel
theorem dX2_nextNumber_83 : decode cX2_nextNumber 83 = .ok (.if_icmp .le 21, 3) := by decide +kernel
theorem dX2_nextNumber_86 : decode cX2_nextNumber 86 = .ok (.aload_n 0, 1) := by decide +kernel
theorem dX2_nextNumber_87 : decode cX2_nextNumber 87 = .ok (.getfield 9, 3) := by decide +kernel
theorem dX2_nextNumber_90 : decode cX2_nextNumber 90 = .ok (.aload_n 0, 1) := by decide +kernel
theorem dX2_nextNumber_91 : decode cX2_nextNumber 91 = .ok (.getfield 33, 3) := by decide +kernel
theorem dX2_nextNumber_94 : decode cX2_nextNumber 94 = .ok (.baload, 1) := by decide +kernel
theorem dX2_nextNumber_95 : decode cX2_nextNumber 95 = .ok (.bipush 48, 2) := by decide +kernel
theorem dX2_nextNumber_97 : decode cX2_nextNumber 97 = .ok (.if_icmp .ne 7, 3) := by decide +kernel
theorem dX2_nextNumber_100 : decode cX2_nextNumber 100 = .ok (.iconst 1, 1) := by decide +kernel
theorem dX2_nextNumber_101 : decode cX2_nextNumber 101 = .ok (.goto 4, 3) := by decide +kernel
theorem dX2_nextNumber_104 : decode cX2_nextNumber 104 = .ok (.iconst 0, 1) := by decide +kernel
theorem dX2_nextNumber_105 : decode cX2_nextNumber 105 = .ok (.istore_n 1, 1) := by decide +kernel
theorem dX2_nextNumber_106 : decode cX2_nextNumber 106 = .ok (.aload_n 0, 1) := by decide +kernel
theorem dX2_nextNumber_107 : decode cX2_nextNumber 107 = .ok (.aload_n 0, 1) := by decide +kernel
theorem dX2_nextNumber_108 : decode cX2_nextNumber 108 = .ok (.getfield 39, 3) := by decide +kernel
theorem dX2_nextNumber_111 : decode cX2_nextNumber 111 = .ok (.bipush 99, 2) := by decide +kernel
theorem dX2_nextNumber_113 : decode cX2_nextNumber 113 = .ok (.if_icmp .gt 7, 3) := by decide +kernel
theorem dX2_nextNumber_116 : decode cX2_nextNumber 116 = .ok (.iload_n 1, 1) := by decide +kernel
theorem dX2_nextNumber_117 : decode cX2_nextNumber 117 = .ok (.ifCond .eq 7, 3) := by decide +kernel
theorem dX2_nextNumber_120 : decode cX2_nextNumber 120 = .ok (.iconst 1, 1) := by decide +kernel
theorem dX2_nextNumber_121 : decode cX2_nextNumber 121 = .ok (.goto 4, 3) := by decide +kernel
theorem dX2_nextNumber_124 : decode cX2_nextNumber 124 = .ok (.iconst 2, 1) := by decide +kernel
theorem dX2_nextNumber_125 : decode cX2_nextNumber 125 = .ok (.putfield 36, 3) := by decide +kernel
theorem dX2_nextNumber_128 : decode cX2_nextNumber 128 = .ok (.return_, 1) := by decide +kernel
theorem dX2_isLetter_0 : decode cX2_isLetter 0 = .ok (.iload_n 0, 1) := by decide +kernel
theorem dX2_isLetter_1 : decode cX2_isLetter 1 = .ok (.bipush 97, 2) := by decide +kernel
theorem dX2_isLetter_3 : decode cX2_isLetter 3 = .ok (.if_icmp .lt 13, 3) := by decide +kernel
theorem dX2_isLetter_6 : decode cX2_isLetter 6 = .ok (.iload_n 0, 1) := by decide +kernel
theorem dX2_isLetter_7 : decode cX2_isLetter 7 = .ok (.bipush 122, 2) := by decide +kernel
theorem dX2_isLetter_9 : decode cX2_isLetter 9 = .ok (.if_icmp .gt 7, 3) := by decide +kernel
theorem dX2_isLetter_12 : decode cX2_isLetter 12 = .ok (.iconst 1, 1) := by decide +kernel
theorem dX2_isLetter_13 : decode cX2_isLetter 13 = .ok (.goto 4, 3) := by decide +kernel
theorem dX2_isLetter_16 : decode cX2_isLetter 16 = .ok (.iconst 0, 1) := by decide +kernel
theorem dX2_isLetter_17 : decode cX2_isLetter 17 = .ok (.ireturn, 1) := by decide +kernel
theorem dX2_isDigit_0 : decode cX2_isDigit 0 = .ok (.iload_n 0, 1) := by decide +kernel
theorem dX2_isDigit_1 : decode cX2_isDigit 1 = .ok (.bipush 48, 2) := by decide +kernel
theorem dX2_isDigit_3 : decode cX2_isDigit 3 = .ok (.if_icmp .lt 13, 3) := by decide +kernel
theorem dX2_isDigit_6 : decode cX2_isDigit 6 = .ok (.iload_n 0, 1) := by decide +kernel
theorem dX2_isDigit_7 : decode cX2_isDigit 7 = .ok (.bipush 57, 2) := by decide +kernel
theorem dX2_isDigit_9 : decode cX2_isDigit 9 = .ok (.if_icmp .gt 7, 3) := by decide +kernel
theorem dX2_isDigit_12 : decode cX2_isDigit 12 = .ok (.iconst 1, 1) := by decide +kernel
theorem dX2_isDigit_13 : decode cX2_isDigit 13 = .ok (.goto 4, 3) := by decide +kernel
theorem dX2_isDigit_16 : decode cX2_isDigit 16 = .ok (.iconst 0, 1) := by decide +kernel
theorem dX2_isDigit_17 : decode cX2_isDigit 17 = .ok (.ireturn, 1) := by decide +kernel
set_option maxRecDepth 20000 in
theorem ggX3_init_X4_init : GoodIn wsX3_init wsX4_init := goodIn_r _ [16, 17, 2, 3, 8, 18, 19] (by decide +kernel) (by decide +kernel)
set_option maxRecDepth 20000 in
theorem gX3_init_X4_init_n11 : GoodIn wsX3_init (wsX4_init) := ggX3_init_X4_init
theorem dX3_init_0 : decode cX3_init 0 = .ok (.aload_n 0, 1) := by decide +kernel
theorem dX3_init_1 : decode cX3_init 1 = .ok (.invokespecial 3, 3) := by decide +kernel
theorem dX3_init_4 : decode cX3_init 4 = .ok (.aload_n 0, 1) := by decide +kernel
theorem dX3_init_5 : decode cX3_init 5 = .ok (.new 9, 3) := by decide +kernel
theorem dX3_init_8 : decode cX3_init 8 = .ok (.dup, 1) := by decide +kernel
theorem dX3_init_9 : decode cX3_init 9 = .ok (.invokespecial 11, 3) := by decide +kernel
theorem dX3_init_12 : decode cX3_init 12 = .ok (.putfield 12, 3) := by decide +kernel
theorem dX3_init_15 : decode cX3_init 15 = .ok (.aload_n 0, 1) := by decide +kernel
theorem dX3_init_16 : decode cX3_init 16 = .ok (.bipush 6, 2) := by decide +kernel
theorem dX3_init_18 : decode cX3_init 18 = .ok (.newarray .int, 2) := by decide +kernel
theorem dX3_init_20 : decode cX3_init 20 = .ok (.putfield 18, 3) := by decide +kernel
theorem dX3_init_23 : decode cX3_init 23 = .ok (.aload_n 0, 1) := by decide +kernel
theorem dX3_init_24 : decode cX3_init 24 = .ok (.bipush 6, 2) := by decide +kernel
theorem dX3_init_26 : decode cX3_init 26 = .ok (.newarray .int, 2) := by decide +kernel
theorem dX3_init_28 : decode cX3_init 28 = .ok (.putfield 22, 3) := by decide +kernel
theorem dX3_init_31 : decode cX3_init 31 = .ok (.aload_n 0, 1) := by decide +kernel
theorem dX3_init_32 : decode cX3_init 32 = .ok (.iconst 0, 1) := by decide +kernel
theorem dX3_init_33 : decode cX3_init 33 = .ok (.putfield 25, 3) := by decide +kernel
theorem dX3_init_36 : decode cX3_init 36 = .ok (.aload_n 0, 1) := by decide +kernel
theorem dX3_init_37 : decode cX3_init 37 = .ok (.iconst 0, 1) := by decide +kernel
theorem dX3_init_38 : decode cX3_init 38 = .ok (.putfield 29, 3) := by decide +kernel
theorem dX3_init_41 : decode cX3_init 41 = .ok (.aload_n 0, 1) := by decide +kernel
theorem dX3_init_42 : decode cX3_init 42 = .ok (.iconst 0, 1) := by decide +kernel
theorem dX3_init_43 : decode cX3_init 43 = .ok (.putfield 32, 3) := by decide +kernel
theorem dX3_init_46 : decode cX3_init 46 = .ok (.aload_n 0, 1) := by decide +kernel
theorem dX3_init_47 : decode cX3_init 47 = .ok (.iconst 1, 1) := by decide +kernel
theorem dX3_init_48 : decode cX3_init 48 = .ok (.putfield 35, 3) := by decide +kernel
theorem dX3_init_51 : decode cX3_init 51 = .ok (.return_, 1) := by decide +kernel
set_option maxRecDepth 20000 in
theorem ggX3_empty_X4_empty : GoodIn wsX3_empty wsX4_empty := goodIn_r _ [11, 12, 20] (by decide +kernel) (by decide +kernel)
set_option maxRecDepth 20000 in
theorem gX3_empty_X4_empty_n38 : GoodIn wsX3_empty (wsX4_empty) := ggX3_empty_X4_empty
theorem dX3_empty_0 : decode cX3_empty 0 = .ok (.aload_n 0, 1) := by decide +kernel
theorem dX3_empty_1 : decode cX3_empty 1 = .ok (.getfield 12, 3) := by decide +kernel
theorem dX3_empty_4 : decode cX3_empty 4 = .ok (.invokevirtual 38, 3) := by decide +kernel
theorem dX3_empty_7 : decode cX3_empty 7 = .ok (.iconst 0, 1) := by decide +kernel
theorem dX3_empty_8 : decode cX3_empty 8 = .ok (.istore_n 1, 1) := by decide +kernel
theorem dX3_empty_9 : decode cX3_empty 9 = .ok (.iload_n 1, 1) := by decide +kernel
theorem dX3_empty_10 : decode cX3_empty 10 = .ok (.bipush 6, 2) := by decide +kernel
theorem dX3_empty_12 : decode cX3_empty 12 = .ok (.if_icmp .ge 23, 3) := by decide +kernel
theorem dX3_empty_15 : decode cX3_empty 15 = .ok (.aload_n 0, 1) := by decide +kernel
theorem dX3_empty_16 : decode cX3_empty 16 = .ok (.getfield 18, 3) := by decide +kernel
theorem dX3_empty_19 : decode cX3_empty 19 = .ok (.iload_n 1, 1) := by decide +kernel
theorem dX3_empty_20 : decode cX3_empty 20 = .ok (.iconst 0, 1) := by decide +kernel
theorem dX3_empty_21 : decode cX3_empty 21 = .ok (.iastore, 1) := by decide +kernel
theorem dX3_empty_22 : decode cX3_empty 22 = .ok (.aload_n 0, 1) := by decide +kernel
theorem dX3_empty_23 : decode cX3_empty 23 = .ok (.getfield 22, 3) := by decide +kernel
theorem dX3_empty_26 : decode cX3_empty 26 = .ok (.iload_n 1, 1) := by decide +kernel
theorem dX3_empty_27 : decode cX3_empty 27 = .ok (.iconst 0, 1) := by decide +kernel
theorem dX3_empty_28 : decode cX3_empty 28 = .ok (.iastore, 1) := by decide +kernel
theorem dX3_empty_29 : decode cX3_empty 29 = .ok (.iinc 1 1, 3) := by decide +kernel
theorem dX3_empty_32 : decode cX3_empty 32 = .ok (.goto (-23), 3) := by decide +kernel
theorem dX3_empty_35 : decode cX3_empty 35 = .ok (.aload_n 0, 1) := by decide +kernel
theorem dX3_empty_36 : decode cX3_empty 36 = .ok (.iconst 0, 1) := by decide +kernel
theorem dX3_empty_37 : decode cX3_empty 37 = .ok (.putfield 25, 3) := by decide +kernel
theorem dX3_empty_40 : decode cX3_empty 40 = .ok (.aload_n 0, 1) := by decide +kernel
theorem dX3_empty_41 : decode cX3_empty 41 = .ok (.iconst 0, 1) := by decide +kernel
theorem dX3_empty_42 : decode cX3_empty 42 = .ok (.putfield 29, 3) := by decide +kernel
theorem dX3_empty_45 : decode cX3_empty 45 = .ok (.aload_n 0, 1) := by decide +kernel
theorem dX3_empty_46 : decode cX3_empty 46 = .ok (.iconst 0, 1) := by decide +kernel
theorem dX3_empty_47 : decode cX3_empty 47 = .ok (.putfield 32, 3) := by decide +kernel
theorem dX3_empty_50 : decode cX3_empty 50 = .ok (.aload_n 0, 1) := by decide +kernel
theorem dX3_empty_51 : decode cX3_empty 51 = .ok (.iconst 1, 1) := by decide +kernel
theorem dX3_empty_52 : decode cX3_empty 52 = .ok (.putfield 35, 3) := by decide +kernel
theorem dX3_empty_55 : decode cX3_empty 55 = .ok (.return_, 1) := by decide +kernel
set_option maxRecDepth 20000 in
theorem ggX3_addHouse_X4_put : GoodIn wsX3_addHouse wsX4_put := goodIn_r _ [7, 8, 16] (by decide +kernel) (by decide +kernel)
set_option maxRecDepth 20000 in
theorem gX3_addHouse_X4_put_n41 : GoodIn wsX3_addHouse (wsX4_put) := ggX3_addHouse_X4_put
theorem dX3_addHouse_0 : decode cX3_addHouse 0 = .ok (.aload_n 0, 1) := by decide +kernel
theorem dX3_addHouse_1 : decode cX3_addHouse 1 = .ok (.getfield 25, 3) := by decide +kernel
theorem dX3_addHouse_4 : decode cX3_addHouse 4 = .ok (.bipush 6, 2) := by decide +kernel
theorem dX3_addHouse_6 : decode cX3_addHouse 6 = .ok (.if_icmp .ge 9, 3) := by decide +kernel
theorem dX3_addHouse_9 : decode cX3_addHouse 9 = .ok (.aload_n 1, 1) := by decide +kernel
theorem dX3_addHouse_10 : decode cX3_addHouse 10 = .ok (.arraylength, 1) := by decide +kernel
theorem dX3_addHouse_11 : decode cX3_addHouse 11 = .ok (.iconst 4, 1) := by decide +kernel
theorem dX3_addHouse_12 : decode cX3_addHouse 12 = .ok (.if_icmp .gt 4, 3) := by decide +kernel
theorem dX3_addHouse_15 : decode cX3_addHouse 15 = .ok (.return_, 1) := by decide +kernel
theorem dX3_addHouse_16 : decode cX3_addHouse 16 = .ok (.iconst 0, 1) := by decide +kernel
theorem dX3_addHouse_17 : decode cX3_addHouse 17 = .ok (.istore_n 2, 1) := by decide +kernel
theorem dX3_addHouse_18 : decode cX3_addHouse 18 = .ok (.iload_n 2, 1) := by decide +kernel
theorem dX3_addHouse_19 : decode cX3_addHouse 19 = .ok (.iconst 4, 1) := by decide +kernel
theorem dX3_addHouse_20 : decode cX3_addHouse 20 = .ok (.if_icmp .ge 24, 3) := by decide +kernel
theorem dX3_addHouse_23 : decode cX3_addHouse 23 = .ok (.aload_n 0, 1) := by decide +kernel
theorem dX3_addHouse_24 : decode cX3_addHouse 24 = .ok (.getfield 12, 3) := by decide +kernel
theorem dX3_addHouse_27 : decode cX3_addHouse 27 = .ok (.aload_n 0, 1) := by decide +kernel
theorem dX3_addHouse_28 : decode cX3_addHouse 28 = .ok (.getfield 25, 3) := by decide +kernel
theorem dX3_addHouse_31 : decode cX3_addHouse 31 = .ok (.iload_n 2, 1) := by decide +kernel
theorem dX3_addHouse_32 : decode cX3_addHouse 32 = .ok (.aload_n 1, 1) := by decide +kernel
theorem dX3_addHouse_33 : decode cX3_addHouse 33 = .ok (.iload_n 2, 1) := by decide +kernel
theorem dX3_addHouse_34 : decode cX3_addHouse 34 = .ok (.iaload, 1) := by decide +kernel
theorem dX3_addHouse_35 : decode cX3_addHouse 35 = .ok (.invokevirtual 41, 3) := by decide +kernel
theorem dX3_addHouse_38 : decode cX3_addHouse 38 = .ok (.iinc 2 1, 3) := by decide +kernel
theorem dX3_addHouse_41 : decode cX3_addHouse 41 = .ok (.goto (-23), 3) := by decide +kernel
theorem dX3_addHouse_44 : decode cX3_addHouse 44 = .ok (.aload_n 0, 1) := by decide +kernel
theorem dX3_addHouse_45 : decode cX3_addHouse 45 = .ok (.getfield 18, 3) := by decide +kernel
theorem dX3_addHouse_48 : decode cX3_addHouse 48 = .ok (.aload_n 0, 1) := by decide +kernel
theorem dX3_addHouse_49 : decode cX3_addHouse 49 = .ok (.getfield 25, 3) := by decide +kernel
theorem dX3_addHouse_52 : decode cX3_addHouse 52 = .ok (.aload_n 1, 1) := by decide +kernel
theorem dX3_addHouse_53 : decode cX3_addHouse 53 = .ok (.iconst 4, 1) := by decide +kernel
theorem dX3_addHouse_54 : decode cX3_addHouse 54 = .ok (.iaload, 1) := by decide +kernel
theorem dX3_addHouse_55 : decode cX3_addHouse 55 = .ok (.iastore, 1) := by decide +kernel
theorem dX3_addHouse_56 : decode cX3_addHouse 56 = .ok (.aload_n 0, 1) := by decide +kernel
theorem dX3_addHouse_57 : decode cX3_addHouse 57 = .ok (.dup, 1) := by decide +kernel
theorem dX3_addHouse_58 : decode cX3_addHouse 58 = .ok (.getfield 25, 3) := by decide +kernel
theorem dX3_addHouse_61 : decode cX3_addHouse 61 = .ok (.iconst 1, 1) := by decide +kernel
theorem dX3_addHouse_62 : decode cX3_addHouse 62 = .ok (.iadd, 1) := by decide +kernel
theorem dX3_addHouse_63 : decode cX3_addHouse 63 = .ok (.putfield 25, 3) := by decide +kernel
theorem dX3_addHouse_66 : decode cX3_addHouse 66 = .ok (.return_, 1) := by decide +kernel
theorem dX3_bar_0 : decode cX3_bar 0 = .ok (.aload_n 0, 1) := by decide +kernel
theorem dX3_bar_1 : decode cX3_bar 1 = .ok (.getfield 22, 3) := by decide +kernel
theorem dX3_bar_4 : decode cX3_bar 4 = .ok (.iload_n 1, 1) := by decide +kernel
theorem dX3_bar_5 : decode cX3_bar 5 = .ok (.dup2, 1) := by decide +kernel
theorem dX3_bar_6 : decode cX3_bar 6 = .ok (.iaload, 1) := by decide +kernel
theorem dX3_bar_7 : decode cX3_bar 7 = .ok (.iconst 1, 1) := by decide +kernel
theorem dX3_bar_8 : decode cX3_bar 8 = .ok (.iload_n 2, 1) := by decide +kernel
theorem dX3_bar_9 : decode cX3_bar 9 = .ok (.ishl, 1) := by decide +kernel
theorem dX3_bar_10 : decode cX3_bar 10 = .ok (.ior, 1) := by decide +kernel
theorem dX3_bar_11 : decode cX3_bar 11 = .ok (.iastore, 1) := by decide +kernel
theorem dX3_bar_12 : decode cX3_bar 12 = .ok (.return_, 1) := by decide +kernel
set_option maxRecDepth 20000 in
theorem ggX3_copyFrom_X4_copyFrom : GoodIn wsX3_copyFrom wsX4_copyFrom := goodIn_r _ [15, 16, 17, 4, 5, 6, 25] (by decide +kernel) (by decide +kernel)
set_option maxRecDepth 20000 in
theorem gX3_copyFrom_X4_copyFrom_n45 : GoodIn wsX3_copyFrom (wsX4_copyFrom) := ggX3_copyFrom_X4_copyFrom
theorem dX3_copyFrom_0 : decode cX3_copyFrom 0 = .ok (.aload_n 0, 1) := by decide +kernel
theorem dX3_copyFrom_1 : decode cX3_copyFrom 1 = .ok (.getfield 12, 3) := by decide +kernel
theorem dX3_copyFrom_4 : decode cX3_copyFrom 4 = .ok (.aload_n 1, 1) := by decide +kernel
theorem dX3_copyFrom_5 : decode cX3_copyFrom 5 = .ok (.getfield 12, 3) := by decide +kernel
theorem dX3_copyFrom_8 : decode cX3_copyFrom 8 = .ok (.invokevirtual 45, 3) := by decide +kernel
theorem dX3_copyFrom_11 : decode cX3_copyFrom 11 = .ok (.aload_n 1, 1) := by decide +kernel
theorem dX3_copyFrom_12 : decode cX3_copyFrom 12 = .ok (.getfield 18, 3) := by decide +kernel
theorem dX3_copyFrom_15 : decode cX3_copyFrom 15 = .ok (.iconst 0, 1) := by decide +kernel
theorem dX3_copyFrom_16 : decode cX3_copyFrom 16 = .ok (.aload_n 0, 1) := by decide +kernel
theorem dX3_copyFrom_17 : decode cX3_copyFrom 17 = .ok (.getfield 18, 3) := by decide +kernel
theorem dX3_copyFrom_20 : decode cX3_copyFrom 20 = .ok (.iconst 0, 1) := by decide +kernel
theorem dX3_copyFrom_21 : decode cX3_copyFrom 21 = .ok (.bipush 6, 2) := by decide +kernel
theorem dX3_copyFrom_23 : decode cX3_copyFrom 23 = .ok (.invokestatic 49, 3) := by decide +kernel
theorem dX3_copyFrom_26 : decode cX3_copyFrom 26 = .ok (.aload_n 1, 1) := by decide +kernel
theorem dX3_copyFrom_27 : decode cX3_copyFrom 27 = .ok (.getfield 22, 3) := by decide +kernel
theorem dX3_copyFrom_30 : decode cX3_copyFrom 30 = .ok (.iconst 0, 1) := by decide +kernel
theorem dX3_copyFrom_31 : decode cX3_copyFrom 31 = .ok (.aload_n 0, 1) := by decide +kernel
theorem dX3_copyFrom_32 : decode cX3_copyFrom 32 = .ok (.getfield 22, 3) := by decide +kernel
theorem dX3_copyFrom_35 : decode cX3_copyFrom 35 = .ok (.iconst 0, 1) := by decide +kernel
theorem dX3_copyFrom_36 : decode cX3_copyFrom 36 = .ok (.bipush 6, 2) := by decide +kernel
theorem dX3_copyFrom_38 : decode cX3_copyFrom 38 = .ok (.invokestatic 49, 3) := by decide +kernel
theorem dX3_copyFrom_41 : decode cX3_copyFrom 41 = .ok (.aload_n 0, 1) := by decide +kernel
theorem dX3_copyFrom_42 : decode cX3_copyFrom 42 = .ok (.aload_n 1, 1) := by decide +kernel
theorem dX3_copyFrom_43 : decode cX3_copyFrom 43 = .ok (.getfield 25, 3) := by decide +kernel
theorem dX3_copyFrom_46 : decode cX3_copyFrom 46 = .ok (.putfield 25, 3) := by decide +kernel
theorem dX3_copyFrom_49 : decode cX3_copyFrom 49 = .ok (.aload_n 0, 1) := by decide +kernel
theorem dX3_copyFrom_50 : decode cX3_copyFrom 50 = .ok (.aload_n 1, 1) := by decide +kernel
theorem dX3_copyFrom_51 : decode cX3_copyFrom 51 = .ok (.getfield 29, 3) := by decide +kernel
theorem dX3_copyFrom_54 : decode cX3_copyFrom 54 = .ok (.putfield 29, 3) := by decide +kernel
theorem dX3_copyFrom_57 : decode cX3_copyFrom 57 = .ok (.aload_n 0, 1) := by decide +kernel
theorem dX3_copyFrom_58 : decode cX3_copyFrom 58 = .ok (.aload_n 1, 1) := by decide +kernel
theorem dX3_copyFrom_59 : decode cX3_copyFrom 59 = .ok (.getfield 32, 3) := by decide +kernel
theorem dX3_copyFrom_62 : decode cX3_copyFrom 62 = .ok (.putfield 32, 3) := by decide +kernel
theorem dX3_copyFrom_65 : decode cX3_copyFrom 65 = .ok (.aload_n 0, 1) := by decide +kernel
theorem dX3_copyFrom_66 : decode cX3_copyFrom 66 = .ok (.aload_n 1, 1) := by decide +kernel
theorem dX3_copyFrom_67 : decode cX3_copyFrom 67 = .ok (.getfield 35, 3) := by decide +kernel
theorem dX3_copyFrom_70 : decode cX3_copyFrom 70 = .ok (.putfield 35, 3) := by decide +kernel
theorem dX3_copyFrom_73 : decode cX3_copyFrom 73 = .ok (.return_, 1) := by decide +kernel
theorem dX4_init_0 : decode cX4_init 0 = .ok (.aload_n 0, 1) := by decide +kernel
theorem dX4_init_1 : decode cX4_init 1 = .ok (.invokespecial 3, 3) := by decide +kernel
theorem dX4_init_4 : decode cX4_init 4 = .ok (.aload_n 0, 1) := by decide +kernel
theorem dX4_init_5 : decode cX4_init 5 = .ok (.bipush 24, 2) := by decide +kernel
theorem dX4_init_7 : decode cX4_init 7 = .ok (.newarray .int, 2) := by decide +kernel
theorem dX4_init_9 : decode cX4_init 9 = .ok (.putfield 9, 3) := by decide +kernel
theorem dX4_init_12 : decode cX4_init 12 = .ok (.return_, 1) := by decide +kernel
theorem dX4_of_0 : decode cX4_of 0 = .ok (.aload_n 0, 1) := by decide +kernel
theorem dX4_of_1 : decode cX4_of 1 = .ok (.getfield 9, 3) := by decide +kernel
theorem dX4_of_4 : decode cX4_of 4 = .ok (.iload_n 1, 1) := by decide +kernel
theorem dX4_of_5 : decode cX4_of 5 = .ok (.iconst 4, 1) := by decide +kernel
theorem dX4_of_6 : decode cX4_of 6 = .ok (.imul, 1) := by decide +kernel
theorem dX4_of_7 : decode cX4_of 7 = .ok (.iload_n 2, 1) := by decide +kernel
theorem dX4_of_8 : decode cX4_of 8 = .ok (.iadd, 1) := by decide +kernel
theorem dX4_of_9 : decode cX4_of 9 = .ok (.iaload, 1) := by decide +kernel
theorem dX4_of_10 : decode cX4_of 10 = .ok (.ireturn, 1) := by decide +kernel
theorem dX4_put_0 : decode cX4_put 0 = .ok (.aload_n 0, 1) := by decide +kernel
theorem dX4_put_1 : decode cX4_put 1 = .ok (.getfield 9, 3) := by decide +kernel
theorem dX4_put_4 : decode cX4_put 4 = .ok (.iload_n 1, 1) := by decide +kernel
theorem dX4_put_5 : decode cX4_put 5 = .ok (.iconst 4, 1) := by decide +kernel
theorem dX4_put_6 : decode cX4_put 6 = .ok (.imul, 1) := by decide +kernel
theorem dX4_put_7 : decode cX4_put 7 = .ok (.iload_n 2, 1) := by decide +kernel
theorem dX4_put_8 : decode cX4_put 8 = .ok (.iadd, 1) := by decide +kernel
theorem dX4_put_9 : decode cX4_put 9 = .ok (.iload_n 3, 1) := by decide +kernel
theorem dX4_put_10 : decode cX4_put 10 = .ok (.iastore, 1) := by decide +kernel
theorem dX4_put_11 : decode cX4_put 11 = .ok (.return_, 1) := by decide +kernel
theorem dX4_empty_0 : decode cX4_empty 0 = .ok (.iconst 0, 1) := by decide +kernel
theorem dX4_empty_1 : decode cX4_empty 1 = .ok (.istore_n 1, 1) := by decide +kernel
theorem dX4_empty_2 : decode cX4_empty 2 = .ok (.iload_n 1, 1) := by decide +kernel
theorem dX4_empty_3 : decode cX4_empty 3 = .ok (.aload_n 0, 1) := by decide +kernel
theorem dX4_empty_4 : decode cX4_empty 4 = .ok (.getfield 9, 3) := by decide +kernel
theorem dX4_empty_7 : decode cX4_empty 7 = .ok (.arraylength, 1) := by decide +kernel
theorem dX4_empty_8 : decode cX4_empty 8 = .ok (.if_icmp .ge 16, 3) := by decide +kernel
theorem dX4_empty_11 : decode cX4_empty 11 = .ok (.aload_n 0, 1) := by decide +kernel
theorem dX4_empty_12 : decode cX4_empty 12 = .ok (.getfield 9, 3) := by decide +kernel
theorem dX4_empty_15 : decode cX4_empty 15 = .ok (.iload_n 1, 1) := by decide +kernel
theorem dX4_empty_16 : decode cX4_empty 16 = .ok (.iconst 0, 1) := by decide +kernel
theorem dX4_empty_17 : decode cX4_empty 17 = .ok (.iastore, 1) := by decide +kernel
theorem dX4_empty_18 : decode cX4_empty 18 = .ok (.iinc 1 1, 3) := by decide +kernel
theorem dX4_empty_21 : decode cX4_empty 21 = .ok (.goto (-19), 3) := by decide +kernel
theorem dX4_empty_24 : decode cX4_empty 24 = .ok (.return_, 1) := by decide +kernel
theorem dX4_copyFrom_0 : decode cX4_copyFrom 0 = .ok (.aload_n 1, 1) := by decide +kernel
theorem dX4_copyFrom_1 : decode cX4_copyFrom 1 = .ok (.getfield 9, 3) := by decide +kernel
theorem dX4_copyFrom_4 : decode cX4_copyFrom 4 = .ok (.iconst 0, 1) := by decide +kernel
theorem dX4_copyFrom_5 : decode cX4_copyFrom 5 = .ok (.aload_n 0, 1) := by decide +kernel
theorem dX4_copyFrom_6 : decode cX4_copyFrom 6 = .ok (.getfield 9, 3) := by decide +kernel
theorem dX4_copyFrom_9 : decode cX4_copyFrom 9 = .ok (.iconst 0, 1) := by decide +kernel
theorem dX4_copyFrom_10 : decode cX4_copyFrom 10 = .ok (.aload_n 0, 1) := by decide +kernel
theorem dX4_copyFrom_11 : decode cX4_copyFrom 11 = .ok (.getfield 9, 3) := by decide +kernel
theorem dX4_copyFrom_14 : decode cX4_copyFrom 14 = .ok (.arraylength, 1) := by decide +kernel
theorem dX4_copyFrom_15 : decode cX4_copyFrom 15 = .ok (.invokestatic 15, 3) := by decide +kernel
theorem dX4_copyFrom_18 : decode cX4_copyFrom 18 = .ok (.return_, 1) := by decide +kernel
set_option maxRecDepth 20000 in
theorem ggX4_together_X4_of : GoodIn wsX4_together wsX4_of := goodIn_r _ [5, 6, 7] (by decide +kernel) (by decide +kernel)
set_option maxRecDepth 20000 in
theorem gX4_together_X4_of : GoodIn wsX4_together (wsV RX4 21 RX4 yX4_of wsX4_of) := goodIn_app (goodIn_of _ (by decide +kernel)) ggX4_together_X4_of
theorem dX4_together_0 : decode cX4_together 0 = .ok (.iconst 0, 1) := by decide +kernel
theorem dX4_together_1 : decode cX4_together 1 = .ok (.istore_n 2, 1) := by decide +kernel
theorem dX4_together_2 : decode cX4_together 2 = .ok (.iconst 0, 1) := by decide +kernel
theorem dX4_together_3 : decode cX4_together 3 = .ok (.istore_n 3, 1) := by decide +kernel
theorem dX4_together_4 : decode cX4_together 4 = .ok (.iload_n 3, 1) := by decide +kernel
theorem dX4_together_5 : decode cX4_together 5 = .ok (.iconst 4, 1) := by decide +kernel
theorem dX4_together_6 : decode cX4_together 6 = .ok (.if_icmp .ge 18, 3) := by decide +kernel
theorem dX4_together_9 : decode cX4_together 9 = .ok (.iload_n 2, 1) := by decide +kernel
theorem dX4_together_10 : decode cX4_together 10 = .ok (.aload_n 0, 1) := by decide +kernel
theorem dX4_together_11 : decode cX4_together 11 = .ok (.iload_n 1, 1) := by decide +kernel
theorem dX4_together_12 : decode cX4_together 12 = .ok (.iload_n 3, 1) := by decide +kernel
theorem dX4_together_13 : decode cX4_together 13 = .ok (.invokevirtual 21, 3) := by decide +kernel
theorem dX4_together_16 : decode cX4_together 16 = .ok (.iadd, 1) := by decide +kernel
theorem dX4_together_17 : decode cX4_together 17 = .ok (.istore_n 2, 1) := by decide +kernel
theorem dX4_together_18 : decode cX4_together 18 = .ok (.iinc 3 1, 3) := by decide +kernel
theorem dX4_together_21 : decode cX4_together 21 = .ok (.goto (-17), 3) := by decide +kernel
theorem dX4_together_24 : decode cX4_together 24 = .ok (.iload_n 2, 1) := by decide +kernel
theorem dX4_together_25 : decode cX4_together 25 = .ok (.ireturn, 1) := by decide +kernel
set_option maxRecDepth 20000 in
theorem ggX4_sortsOf_X4_of : GoodIn wsX4_sortsOf wsX4_of := goodIn_r _ [5, 6, 7] (by decide +kernel) (by decide +kernel)
set_option maxRecDepth 20000 in
theorem gX4_sortsOf_X4_of : GoodIn wsX4_sortsOf (wsV RX4 21 RX4 yX4_of wsX4_of) := goodIn_app (goodIn_of _ (by decide +kernel)) ggX4_sortsOf_X4_of
theorem dX4_sortsOf_0 : decode cX4_sortsOf 0 = .ok (.iconst 0, 1) := by decide +kernel
theorem dX4_sortsOf_1 : decode cX4_sortsOf 1 = .ok (.istore_n 2, 1) := by decide +kernel
theorem dX4_sortsOf_2 : decode cX4_sortsOf 2 = .ok (.iconst 0, 1) := by decide +kernel
theorem dX4_sortsOf_3 : decode cX4_sortsOf 3 = .ok (.istore_n 3, 1) := by decide +kernel
theorem dX4_sortsOf_4 : decode cX4_sortsOf 4 = .ok (.iload_n 3, 1) := by decide +kernel
theorem dX4_sortsOf_5 : decode cX4_sortsOf 5 = .ok (.iconst 4, 1) := by decide +kernel
theorem dX4_sortsOf_6 : decode cX4_sortsOf 6 = .ok (.if_icmp .ge 21, 3) := by decide +kernel
theorem dX4_sortsOf_9 : decode cX4_sortsOf 9 = .ok (.aload_n 0, 1) := by decide +kernel
theorem dX4_sortsOf_10 : decode cX4_sortsOf 10 = .ok (.iload_n 1, 1) := by decide +kernel
theorem dX4_sortsOf_11 : decode cX4_sortsOf 11 = .ok (.iload_n 3, 1) := by decide +kernel
theorem dX4_sortsOf_12 : decode cX4_sortsOf 12 = .ok (.invokevirtual 21, 3) := by decide +kernel
theorem dX4_sortsOf_15 : decode cX4_sortsOf 15 = .ok (.ifCond .le 6, 3) := by decide +kernel
theorem dX4_sortsOf_18 : decode cX4_sortsOf 18 = .ok (.iinc 2 1, 3) := by decide +kernel
theorem dX4_sortsOf_21 : decode cX4_sortsOf 21 = .ok (.iinc 3 1, 3) := by decide +kernel
theorem dX4_sortsOf_24 : decode cX4_sortsOf 24 = .ok (.goto (-20), 3) := by decide +kernel
theorem dX4_sortsOf_27 : decode cX4_sortsOf 27 = .ok (.iload_n 2, 1) := by decide +kernel
theorem dX4_sortsOf_28 : decode cX4_sortsOf 28 = .ok (.ireturn, 1) := by decide +kernel
set_option maxRecDepth 20000 in
theorem ggX4_heaviest_X4_of : GoodIn wsX4_heaviest wsX4_of := goodIn_r _ [5, 6, 7] (by decide +kernel) (by decide +kernel)
set_option maxRecDepth 20000 in
theorem gX4_heaviest_X4_of : GoodIn wsX4_heaviest (wsV RX4 21 RX4 yX4_of wsX4_of) := goodIn_app (goodIn_of _ (by decide +kernel)) ggX4_heaviest_X4_of
theorem dX4_heaviest_0 : decode cX4_heaviest 0 = .ok (.bipush (-9), 2) := by decide +kernel
theorem dX4_heaviest_2 : decode cX4_heaviest 2 = .ok (.istore_n 2, 1) := by decide +kernel
theorem dX4_heaviest_3 : decode cX4_heaviest 3 = .ok (.iconst 0, 1) := by decide +kernel
theorem dX4_heaviest_4 : decode cX4_heaviest 4 = .ok (.istore_n 3, 1) := by decide +kernel
theorem dX4_heaviest_5 : decode cX4_heaviest 5 = .ok (.iconst 0, 1) := by decide +kernel
theorem dX4_heaviest_6 : decode cX4_heaviest 6 = .ok (.istore 4, 2) := by decide +kernel
theorem dX4_heaviest_8 : decode cX4_heaviest 8 = .ok (.iload 4, 2) := by decide +kernel
theorem dX4_heaviest_10 : decode cX4_heaviest 10 = .ok (.iconst 4, 1) := by decide +kernel
theorem dX4_heaviest_11 : decode cX4_heaviest 11 = .ok (.if_icmp .ge 31, 3) := by decide +kernel
theorem dX4_heaviest_14 : decode cX4_heaviest 14 = .ok (.aload_n 0, 1) := by decide +kernel
theorem dX4_heaviest_15 : decode cX4_heaviest 15 = .ok (.iload_n 1, 1) := by decide +kernel
theorem dX4_heaviest_16 : decode cX4_heaviest 16 = .ok (.iload 4, 2) := by decide +kernel
theorem dX4_heaviest_18 : decode cX4_heaviest 18 = .ok (.invokevirtual 21, 3) := by decide +kernel
theorem dX4_heaviest_21 : decode cX4_heaviest 21 = .ok (.iload_n 3, 1) := by decide +kernel
theorem dX4_heaviest_22 : decode cX4_heaviest 22 = .ok (.if_icmp .le 14, 3) := by decide +kernel
theorem dX4_heaviest_25 : decode cX4_heaviest 25 = .ok (.iload 4, 2) := by decide +kernel
theorem dX4_heaviest_27 : decode cX4_heaviest 27 = .ok (.istore_n 2, 1) := by decide +kernel
theorem dX4_heaviest_28 : decode cX4_heaviest 28 = .ok (.aload_n 0, 1) := by decide +kernel
theorem dX4_heaviest_29 : decode cX4_heaviest 29 = .ok (.iload_n 1, 1) := by decide +kernel
theorem dX4_heaviest_30 : decode cX4_heaviest 30 = .ok (.iload 4, 2) := by decide +kernel
theorem dX4_heaviest_32 : decode cX4_heaviest 32 = .ok (.invokevirtual 21, 3) := by decide +kernel
theorem dX4_heaviest_35 : decode cX4_heaviest 35 = .ok (.istore_n 3, 1) := by decide +kernel
theorem dX4_heaviest_36 : decode cX4_heaviest 36 = .ok (.iinc 4 1, 3) := by decide +kernel
theorem dX4_heaviest_39 : decode cX4_heaviest 39 = .ok (.goto (-31), 3) := by decide +kernel
theorem dX4_heaviest_42 : decode cX4_heaviest 42 = .ok (.iload_n 2, 1) := by decide +kernel
theorem dX4_heaviest_43 : decode cX4_heaviest 43 = .ok (.ireturn, 1) := by decide +kernel
set_option maxRecDepth 20000 in
theorem ggX4_nextFrom_X4_of : GoodIn wsX4_nextFrom wsX4_of := goodIn_r _ [5, 6, 7] (by decide +kernel) (by decide +kernel)
set_option maxRecDepth 20000 in
theorem gX4_nextFrom_X4_of : GoodIn wsX4_nextFrom (wsV RX4 21 RX4 yX4_of wsX4_of) := goodIn_app (goodIn_of _ (by decide +kernel)) ggX4_nextFrom_X4_of
theorem dX4_nextFrom_0 : decode cX4_nextFrom 0 = .ok (.iconst 0, 1) := by decide +kernel
theorem dX4_nextFrom_1 : decode cX4_nextFrom 1 = .ok (.istore_n 3, 1) := by decide +kernel
theorem dX4_nextFrom_2 : decode cX4_nextFrom 2 = .ok (.iload_n 3, 1) := by decide +kernel
theorem dX4_nextFrom_3 : decode cX4_nextFrom 3 = .ok (.iconst 4, 1) := by decide +kernel
theorem dX4_nextFrom_4 : decode cX4_nextFrom 4 = .ok (.if_icmp .ge 29, 3) := by decide +kernel
theorem dX4_nextFrom_7 : decode cX4_nextFrom 7 = .ok (.iload_n 1, 1) := by decide +kernel
theorem dX4_nextFrom_8 : decode cX4_nextFrom 8 = .ok (.iload_n 3, 1) := by decide +kernel
theorem dX4_nextFrom_9 : decode cX4_nextFrom 9 = .ok (.iadd, 1) := by decide +kernel
theorem dX4_nextFrom_10 : decode cX4_nextFrom 10 = .ok (.iconst 4, 1) := by decide +kernel
theorem dX4_nextFrom_11 : decode cX4_nextFrom 11 = .ok (.irem, 1) := by decide +kernel
theorem dX4_nextFrom_12 : decode cX4_nextFrom 12 = .ok (.istore 4, 2) := by decide +kernel
theorem dX4_nextFrom_14 : decode cX4_nextFrom 14 = .ok (.aload_n 0, 1) := by decide +kernel
theorem dX4_nextFrom_15 : decode cX4_nextFrom 15 = .ok (.iload_n 2, 1) := by decide +kernel
theorem dX4_nextFrom_16 : decode cX4_nextFrom 16 = .ok (.iload 4, 2) := by decide +kernel
theorem dX4_nextFrom_18 : decode cX4_nextFrom 18 = .ok (.invokevirtual 21, 3) := by decide +kernel
theorem dX4_nextFrom_21 : decode cX4_nextFrom 21 = .ok (.ifCond .le 6, 3) := by decide +kernel
theorem dX4_nextFrom_24 : decode cX4_nextFrom 24 = .ok (.iload 4, 2) := by decide +kernel
theorem dX4_nextFrom_26 : decode cX4_nextFrom 26 = .ok (.ireturn, 1) := by decide +kernel
theorem dX4_nextFrom_27 : decode cX4_nextFrom 27 = .ok (.iinc 3 1, 3) := by decide +kernel
theorem dX4_nextFrom_30 : decode cX4_nextFrom 30 = .ok (.goto (-28), 3) := by decide +kernel
theorem dX4_nextFrom_33 : decode cX4_nextFrom 33 = .ok (.bipush (-9), 2) := by decide +kernel
theorem dX4_nextFrom_35 : decode cX4_nextFrom 35 = .ok (.ireturn, 1) := by decide +kernel
set_option maxRecDepth 20000 in
theorem ggX4_pass_X4_of : GoodIn wsX4_pass wsX4_of := goodIn_r _ [12, 13, 18] (by decide +kernel) (by decide +kernel)
set_option maxRecDepth 20000 in
theorem gX4_pass_X4_of : GoodIn wsX4_pass (wsV RX4 21 RX4 yX4_of wsX4_of) := goodIn_app (goodIn_of _ (by decide +kernel)) ggX4_pass_X4_of
set_option maxRecDepth 20000 in
theorem ggX4_pass_X4_put : GoodIn wsX4_pass wsX4_put := goodIn_r _ [17, 13, 18] (by decide +kernel) (by decide +kernel)
set_option maxRecDepth 20000 in
theorem gX4_pass_X4_put : GoodIn wsX4_pass (wsV RX4 33 RX4 yX4_put wsX4_put) := goodIn_app (goodIn_of _ (by decide +kernel)) ggX4_pass_X4_put
theorem dX4_pass_0 : decode cX4_pass 0 = .ok (.iload_n 2, 1) := by decide +kernel
theorem dX4_pass_1 : decode cX4_pass 1 = .ok (.ifCond .ne 7, 3) := by decide +kernel
theorem dX4_pass_4 : decode cX4_pass 4 = .ok (.iload_n 3, 1) := by decide +kernel
theorem dX4_pass_5 : decode cX4_pass 5 = .ok (.goto 14, 3) := by decide +kernel
theorem dX4_pass_8 : decode cX4_pass 8 = .ok (.iload_n 2, 1) := by decide +kernel
theorem dX4_pass_9 : decode cX4_pass 9 = .ok (.iconst 1, 1) := by decide +kernel
theorem dX4_pass_10 : decode cX4_pass 10 = .ok (.if_icmp .ne 7, 3) := by decide +kernel
theorem dX4_pass_13 : decode cX4_pass 13 = .ok (.iconst 0, 1) := by decide +kernel
theorem dX4_pass_14 : decode cX4_pass 14 = .ok (.goto 5, 3) := by decide +kernel
theorem dX4_pass_17 : decode cX4_pass 17 = .ok (.iload_n 3, 1) := by decide +kernel
theorem dX4_pass_18 : decode cX4_pass 18 = .ok (.ineg, 1) := by decide +kernel
theorem dX4_pass_19 : decode cX4_pass 19 = .ok (.istore 4, 2) := by decide +kernel
theorem dX4_pass_21 : decode cX4_pass 21 = .ok (.iconst 0, 1) := by decide +kernel
theorem dX4_pass_22 : decode cX4_pass 22 = .ok (.istore 5, 2) := by decide +kernel
theorem dX4_pass_24 : decode cX4_pass 24 = .ok (.iload 5, 2) := by decide +kernel
theorem dX4_pass_26 : decode cX4_pass 26 = .ok (.bipush 6, 2) := by decide +kernel
theorem dX4_pass_28 : decode cX4_pass 28 = .ok (.if_icmp .ge 44, 3) := by decide +kernel
theorem dX4_pass_31 : decode cX4_pass 31 = .ok (.aload_n 0, 1) := by decide +kernel
theorem dX4_pass_32 : decode cX4_pass 32 = .ok (.iload 5, 2) := by decide +kernel
theorem dX4_pass_34 : decode cX4_pass 34 = .ok (.iload_n 1, 1) := by decide +kernel
theorem dX4_pass_35 : decode cX4_pass 35 = .ok (.invokevirtual 21, 3) := by decide +kernel
theorem dX4_pass_38 : decode cX4_pass 38 = .ok (.istore 6, 2) := by decide +kernel
theorem dX4_pass_40 : decode cX4_pass 40 = .ok (.iload 6, 2) := by decide +kernel
theorem dX4_pass_42 : decode cX4_pass 42 = .ok (.ifCond .le 24, 3) := by decide +kernel
theorem dX4_pass_45 : decode cX4_pass 45 = .ok (.aload_n 0, 1) := by decide +kernel
theorem dX4_pass_46 : decode cX4_pass 46 = .ok (.iload 5, 2) := by decide +kernel
theorem dX4_pass_48 : decode cX4_pass 48 = .ok (.iload_n 1, 1) := by decide +kernel
theorem dX4_pass_49 : decode cX4_pass 49 = .ok (.iconst 1, 1) := by decide +kernel
theorem dX4_pass_50 : decode cX4_pass 50 = .ok (.bipush 9, 2) := by decide +kernel
theorem dX4_pass_52 : decode cX4_pass 52 = .ok (.iload 6, 2) := by decide +kernel
theorem dX4_pass_54 : decode cX4_pass 54 = .ok (.iload 4, 2) := by decide +kernel
theorem dX4_pass_56 : decode cX4_pass 56 = .ok (.iadd, 1) := by decide +kernel
theorem dX4_pass_57 : decode cX4_pass 57 = .ok (.invokestatic 25, 3) := by decide +kernel
theorem dX4_pass_60 : decode cX4_pass 60 = .ok (.invokestatic 30, 3) := by decide +kernel
theorem dX4_pass_63 : decode cX4_pass 63 = .ok (.invokevirtual 33, 3) := by decide +kernel
theorem dX4_pass_66 : decode cX4_pass 66 = .ok (.iinc 5 1, 3) := by decide +kernel
theorem dX4_pass_69 : decode cX4_pass 69 = .ok (.goto (-45), 3) := by decide +kernel
theorem dX4_pass_72 : decode cX4_pass 72 = .ok (.return_, 1) := by decide +kernel
set_option maxRecDepth 20000 in
theorem ggX4_packed_X4_of : GoodIn wsX4_packed wsX4_of := goodIn_r _ [5, 6, 7] (by decide +kernel) (by decide +kernel)
set_option maxRecDepth 20000 in
theorem gX4_packed_X4_of : GoodIn wsX4_packed (wsV RX4 21 RX4 yX4_of wsX4_of) := goodIn_app (goodIn_of _ (by decide +kernel)) ggX4_packed_X4_of
theorem dX4_packed_0 : decode cX4_packed 0 = .ok (.lconst 0, 1) := by decide +kernel
theorem dX4_packed_1 : decode cX4_packed 1 = .ok (.lstore_n 2, 1) := by decide +kernel
theorem dX4_packed_2 : decode cX4_packed 2 = .ok (.iload_n 1, 1) := by decide +kernel
theorem dX4_packed_3 : decode cX4_packed 3 = .ok (.istore 4, 2) := by decide +kernel
theorem dX4_packed_5 : decode cX4_packed 5 = .ok (.iload 4, 2) := by decide +kernel
theorem dX4_packed_7 : decode cX4_packed 7 = .ok (.iload_n 1, 1) := by decide +kernel
theorem dX4_packed_8 : decode cX4_packed 8 = .ok (.iconst 3, 1) := by decide +kernel
theorem dX4_packed_9 : decode cX4_packed 9 = .ok (.iadd, 1) := by decide +kernel
theorem dX4_packed_10 : decode cX4_packed 10 = .ok (.if_icmp .ge 38, 3) := by decide +kernel
theorem dX4_packed_13 : decode cX4_packed 13 = .ok (.iconst 0, 1) := by decide +kernel
theorem dX4_packed_14 : decode cX4_packed 14 = .ok (.istore 5, 2) := by decide +kernel
theorem dX4_packed_16 : decode cX4_packed 16 = .ok (.iload 5, 2) := by decide +kernel
theorem dX4_packed_18 : decode cX4_packed 18 = .ok (.iconst 4, 1) := by decide +kernel
theorem dX4_packed_19 : decode cX4_packed 19 = .ok (.if_icmp .ge 23, 3) := by decide +kernel
theorem dX4_packed_22 : decode cX4_packed 22 = .ok (.lload_n 2, 1) := by decide +kernel
theorem dX4_packed_23 : decode cX4_packed 23 = .ok (.iconst 4, 1) := by decide +kernel
theorem dX4_packed_24 : decode cX4_packed 24 = .ok (.lshl, 1) := by decide +kernel
theorem dX4_packed_25 : decode cX4_packed 25 = .ok (.aload_n 0, 1) := by decide +kernel
theorem dX4_packed_26 : decode cX4_packed 26 = .ok (.iload 4, 2) := by decide +kernel
theorem dX4_packed_28 : decode cX4_packed 28 = .ok (.iload 5, 2) := by decide +kernel
theorem dX4_packed_30 : decode cX4_packed 30 = .ok (.invokevirtual 21, 3) := by decide +kernel
theorem dX4_packed_33 : decode cX4_packed 33 = .ok (.i2l, 1) := by decide +kernel
theorem dX4_packed_34 : decode cX4_packed 34 = .ok (.lor, 1) := by decide +kernel
theorem dX4_packed_35 : decode cX4_packed 35 = .ok (.lstore_n 2, 1) := by decide +kernel
theorem dX4_packed_36 : decode cX4_packed 36 = .ok (.iinc 5 1, 3) := by decide +kernel
theorem dX4_packed_39 : decode cX4_packed 39 = .ok (.goto (-23), 3) := by decide +kernel
theorem dX4_packed_42 : decode cX4_packed 42 = .ok (.iinc 4 1, 3) := by decide +kernel
theorem dX4_packed_45 : decode cX4_packed 45 = .ok (.goto (-40), 3) := by decide +kernel
theorem dX4_packed_48 : decode cX4_packed 48 = .ok (.lload_n 2, 1) := by decide +kernel
theorem dX4_packed_49 : decode cX4_packed 49 = .ok (.lreturn, 1) := by decide +kernel
set_option maxRecDepth 20000 in
theorem ggX5_init_X4_init : GoodIn wsX5_init wsX4_init := goodIn_r _ [16, 17, 2, 3, 11, 18, 19] (by decide +kernel) (by decide +kernel)
set_option maxRecDepth 20000 in
theorem gX5_init_X4_init_n11 : GoodIn wsX5_init (wsX4_init) := ggX5_init_X4_init
theorem dX5_init_0 : decode cX5_init 0 = .ok (.aload_n 0, 1) := by decide +kernel
theorem dX5_init_1 : decode cX5_init 1 = .ok (.invokespecial 3, 3) := by decide +kernel
theorem dX5_init_4 : decode cX5_init 4 = .ok (.aload_n 0, 1) := by decide +kernel
theorem dX5_init_5 : decode cX5_init 5 = .ok (.new 9, 3) := by decide +kernel
theorem dX5_init_8 : decode cX5_init 8 = .ok (.dup, 1) := by decide +kernel
theorem dX5_init_9 : decode cX5_init 9 = .ok (.invokespecial 11, 3) := by decide +kernel
theorem dX5_init_12 : decode cX5_init 12 = .ok (.putfield 12, 3) := by decide +kernel
theorem dX5_init_15 : decode cX5_init 15 = .ok (.aload_n 0, 1) := by decide +kernel
theorem dX5_init_16 : decode cX5_init 16 = .ok (.sipush 201, 3) := by decide +kernel
theorem dX5_init_19 : decode cX5_init 19 = .ok (.newarray .long, 2) := by decide +kernel
theorem dX5_init_21 : decode cX5_init 21 = .ok (.putfield 18, 3) := by decide +kernel
theorem dX5_init_24 : decode cX5_init 24 = .ok (.aload_n 0, 1) := by decide +kernel
theorem dX5_init_25 : decode cX5_init 25 = .ok (.sipush 201, 3) := by decide +kernel
theorem dX5_init_28 : decode cX5_init 28 = .ok (.newarray .long, 2) := by decide +kernel
theorem dX5_init_30 : decode cX5_init 30 = .ok (.putfield 22, 3) := by decide +kernel
theorem dX5_init_33 : decode cX5_init 33 = .ok (.aload_n 0, 1) := by decide +kernel
theorem dX5_init_34 : decode cX5_init 34 = .ok (.iconst 4, 1) := by decide +kernel
theorem dX5_init_35 : decode cX5_init 35 = .ok (.newarray .int, 2) := by decide +kernel
theorem dX5_init_37 : decode cX5_init 37 = .ok (.putfield 25, 3) := by decide +kernel
theorem dX5_init_40 : decode cX5_init 40 = .ok (.aload_n 0, 1) := by decide +kernel
theorem dX5_init_41 : decode cX5_init 41 = .ok (.iconst 0, 1) := by decide +kernel
theorem dX5_init_42 : decode cX5_init 42 = .ok (.putfield 29, 3) := by decide +kernel
theorem dX5_init_45 : decode cX5_init 45 = .ok (.aload_n 0, 1) := by decide +kernel
theorem dX5_init_46 : decode cX5_init 46 = .ok (.iconst 0, 1) := by decide +kernel
theorem dX5_init_47 : decode cX5_init 47 = .ok (.putfield 33, 3) := by decide +kernel
theorem dX5_init_50 : decode cX5_init 50 = .ok (.return_, 1) := by decide +kernel
set_option maxRecDepth 20000 in
theorem ggX5_comeRound_X4_copyFrom : GoodIn wsX5_comeRound wsX4_copyFrom := goodIn_r _ [9, 10, 11, 12, 13, 14, 55] (by decide +kernel) (by decide +kernel)
set_option maxRecDepth 20000 in
theorem gX5_comeRound_X4_copyFrom_n36 : GoodIn wsX5_comeRound (wsX4_copyFrom) := ggX5_comeRound_X4_copyFrom
set_option maxRecDepth 20000 in
theorem ggX5_comeRound_X4_packed : GoodIn wsX5_comeRound wsX4_packed := goodIn_r _ [17, 18, 19, 20, 7, 21, 10, 55] (by decide +kernel) (by decide +kernel)
set_option maxRecDepth 20000 in
theorem gX5_comeRound_X4_packed_n40 : GoodIn wsX5_comeRound (wsX4_packed) := ggX5_comeRound_X4_packed
set_option maxRecDepth 20000 in
theorem ggX5_comeRound_X5_yearLike : GoodIn wsX5_comeRound wsX5_yearLike := goodIn_r _ [26, 2, 3, 49, 50, 51, 52, 53, 54] (by decide +kernel) (by decide +kernel)
set_option maxRecDepth 20000 in
theorem gX5_comeRound_X5_yearLike : GoodIn wsX5_comeRound (wsV RX5 44 RX5 yX5_yearLike wsX5_yearLike) := goodIn_app (goodIn_of _ (by decide +kernel)) ggX5_comeRound_X5_yearLike
set_option maxRecDepth 20000 in
theorem ggX5_comeRound_X5_goOn : GoodIn wsX5_comeRound wsX5_goOn := goodIn_r _ [30, 31, 1, 32, 7, 33, 34, 18, 19, 20, 21, 10, 35, 36, 37, 38, 39, 40, 41, 42, 43, 44, 45, 46, 47, 48, 49, 50, 51, 52, 53, 54, 55] (by decide +kernel) (by decide +kernel)
set_option maxRecDepth 20000 in
theorem gX5_comeRound_X5_goOn : GoodIn wsX5_comeRound (wsV RX5 48 RX5 yX5_goOn wsX5_goOn) := goodIn_app (goodIn_of _ (by decide +kernel)) ggX5_comeRound_X5_goOn
theorem dX5_comeRound_0 : decode cX5_comeRound 0 = .ok (.aload_n 0, 1) := by decide +kernel
