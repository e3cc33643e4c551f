theorem dX7_odds_31 : decode cX7_odds 31 = .ok (.ldc2_w 171, 3) := by decide +kernel
theorem dX7_odds_34 : decode cX7_odds 34 = .ok (.lreturn, 1) := by decide +kernel
theorem dX7_odds_35 : decode cX7_odds 35 = .ok (.iconst 0, 1) := by decide +kernel
theorem dX7_odds_36 : decode cX7_odds 36 = .ok (.istore 4, 2) := by decide +kernel
theorem dX7_odds_38 : decode cX7_odds 38 = .ok (.iload 4, 2) := by decide +kernel
theorem dX7_odds_40 : decode cX7_odds 40 = .ok (.bipush 16, 2) := by decide +kernel
theorem dX7_odds_42 : decode cX7_odds 42 = .ok (.if_icmp .ge 26, 3) := by decide +kernel
theorem dX7_odds_45 : decode cX7_odds 45 = .ok (.aload_n 0, 1) := by decide +kernel
theorem dX7_odds_46 : decode cX7_odds 46 = .ok (.getfield 38, 3) := by decide +kernel
theorem dX7_odds_49 : decode cX7_odds 49 = .ok (.iload 4, 2) := by decide +kernel
theorem dX7_odds_51 : decode cX7_odds 51 = .ok (.iload 4, 2) := by decide +kernel
theorem dX7_odds_53 : decode cX7_odds 53 = .ok (.ifCond .ne 7, 3) := by decide +kernel
theorem dX7_odds_56 : decode cX7_odds 56 = .ok (.lconst 1, 1) := by decide +kernel
theorem dX7_odds_57 : decode cX7_odds 57 = .ok (.goto 4, 3) := by decide +kernel
theorem dX7_odds_60 : decode cX7_odds 60 = .ok (.lconst 0, 1) := by decide +kernel
theorem dX7_odds_61 : decode cX7_odds 61 = .ok (.lastore, 1) := by decide +kernel
theorem dX7_odds_62 : decode cX7_odds 62 = .ok (.iinc 4 1, 3) := by decide +kernel
theorem dX7_odds_65 : decode cX7_odds 65 = .ok (.goto (-27), 3) := by decide +kernel
theorem dX7_odds_68 : decode cX7_odds 68 = .ok (.lconst 1, 1) := by decide +kernel
theorem dX7_odds_69 : decode cX7_odds 69 = .ok (.lstore 4, 2) := by decide +kernel
theorem dX7_odds_71 : decode cX7_odds 71 = .ok (.iconst 0, 1) := by decide +kernel
theorem dX7_odds_72 : decode cX7_odds 72 = .ok (.istore 6, 2) := by decide +kernel
theorem dX7_odds_74 : decode cX7_odds 74 = .ok (.iload 6, 2) := by decide +kernel
theorem dX7_odds_76 : decode cX7_odds 76 = .ok (.aload_n 0, 1) := by decide +kernel
theorem dX7_odds_77 : decode cX7_odds 77 = .ok (.getfield 122, 3) := by decide +kernel
theorem dX7_odds_80 : decode cX7_odds 80 = .ok (.if_icmp .ge 107, 3) := by decide +kernel
theorem dX7_odds_83 : decode cX7_odds 83 = .ok (.aload_n 0, 1) := by decide +kernel
theorem dX7_odds_84 : decode cX7_odds 84 = .ok (.iload 6, 2) := by decide +kernel
theorem dX7_odds_86 : decode cX7_odds 86 = .ok (.invokevirtual 140, 3) := by decide +kernel
theorem dX7_odds_89 : decode cX7_odds 89 = .ok (.istore 7, 2) := by decide +kernel
theorem dX7_odds_91 : decode cX7_odds 91 = .ok (.iload 7, 2) := by decide +kernel
theorem dX7_odds_93 : decode cX7_odds 93 = .ok (.ifCond .le 88, 3) := by decide +kernel
theorem dX7_odds_96 : decode cX7_odds 96 = .ok (.lload 4, 2) := by decide +kernel
theorem dX7_odds_98 : decode cX7_odds 98 = .ok (.iload 7, 2) := by decide +kernel
theorem dX7_odds_100 : decode cX7_odds 100 = .ok (.i2l, 1) := by decide +kernel
theorem dX7_odds_101 : decode cX7_odds 101 = .ok (.lmul, 1) := by decide +kernel
theorem dX7_odds_102 : decode cX7_odds 102 = .ok (.lstore 4, 2) := by decide +kernel
theorem dX7_odds_104 : decode cX7_odds 104 = .ok (.bipush 7, 2) := by decide +kernel
theorem dX7_odds_106 : decode cX7_odds 106 = .ok (.istore 8, 2) := by decide +kernel
theorem dX7_odds_108 : decode cX7_odds 108 = .ok (.iload 8, 2) := by decide +kernel
theorem dX7_odds_110 : decode cX7_odds 110 = .ok (.ifCond .lt 71, 3) := by decide +kernel
theorem dX7_odds_113 : decode cX7_odds 113 = .ok (.aload_n 0, 1) := by decide +kernel
theorem dX7_odds_114 : decode cX7_odds 114 = .ok (.getfield 38, 3) := by decide +kernel
theorem dX7_odds_117 : decode cX7_odds 117 = .ok (.iload 8, 2) := by decide +kernel
theorem dX7_odds_119 : decode cX7_odds 119 = .ok (.aload_n 0, 1) := by decide +kernel
theorem dX7_odds_120 : decode cX7_odds 120 = .ok (.getfield 38, 3) := by decide +kernel
theorem dX7_odds_123 : decode cX7_odds 123 = .ok (.iload 8, 2) := by decide +kernel
theorem dX7_odds_125 : decode cX7_odds 125 = .ok (.laload, 1) := by decide +kernel
theorem dX7_odds_126 : decode cX7_odds 126 = .ok (.iload 7, 2) := by decide +kernel
theorem dX7_odds_128 : decode cX7_odds 128 = .ok (.aload_n 0, 1) := by decide +kernel
theorem dX7_odds_129 : decode cX7_odds 129 = .ok (.getfield 25, 3) := by decide +kernel
theorem dX7_odds_132 : decode cX7_odds 132 = .ok (.iconst 4, 1) := by decide +kernel
theorem dX7_odds_133 : decode cX7_odds 133 = .ok (.iload 6, 2) := by decide +kernel
theorem dX7_odds_135 : decode cX7_odds 135 = .ok (.imul, 1) := by decide +kernel
theorem dX7_odds_136 : decode cX7_odds 136 = .ok (.iload_n 1, 1) := by decide +kernel
theorem dX7_odds_137 : decode cX7_odds 137 = .ok (.iadd, 1) := by decide +kernel
theorem dX7_odds_138 : decode cX7_odds 138 = .ok (.iaload, 1) := by decide +kernel
theorem dX7_odds_139 : decode cX7_odds 139 = .ok (.isub, 1) := by decide +kernel
theorem dX7_odds_140 : decode cX7_odds 140 = .ok (.i2l, 1) := by decide +kernel
theorem dX7_odds_141 : decode cX7_odds 141 = .ok (.lmul, 1) := by decide +kernel
theorem dX7_odds_142 : decode cX7_odds 142 = .ok (.iload 8, 2) := by decide +kernel
theorem dX7_odds_144 : decode cX7_odds 144 = .ok (.ifCond .le 28, 3) := by decide +kernel
theorem dX7_odds_147 : decode cX7_odds 147 = .ok (.aload_n 0, 1) := by decide +kernel
theorem dX7_odds_148 : decode cX7_odds 148 = .ok (.getfield 38, 3) := by decide +kernel
theorem dX7_odds_151 : decode cX7_odds 151 = .ok (.iload 8, 2) := by decide +kernel
theorem dX7_odds_153 : decode cX7_odds 153 = .ok (.iconst 1, 1) := by decide +kernel
theorem dX7_odds_154 : decode cX7_odds 154 = .ok (.isub, 1) := by decide +kernel
theorem dX7_odds_155 : decode cX7_odds 155 = .ok (.laload, 1) := by decide +kernel
theorem dX7_odds_156 : decode cX7_odds 156 = .ok (.aload_n 0, 1) := by decide +kernel
theorem dX7_odds_157 : decode cX7_odds 157 = .ok (.getfield 25, 3) := by decide +kernel
theorem dX7_odds_160 : decode cX7_odds 160 = .ok (.iconst 4, 1) := by decide +kernel
theorem dX7_odds_161 : decode cX7_odds 161 = .ok (.iload 6, 2) := by decide +kernel
theorem dX7_odds_163 : decode cX7_odds 163 = .ok (.imul, 1) := by decide +kernel
theorem dX7_odds_164 : decode cX7_odds 164 = .ok (.iload_n 1, 1) := by decide +kernel
theorem dX7_odds_165 : decode cX7_odds 165 = .ok (.iadd, 1) := by decide +kernel
theorem dX7_odds_166 : decode cX7_odds 166 = .ok (.iaload, 1) := by decide +kernel
theorem dX7_odds_167 : decode cX7_odds 167 = .ok (.i2l, 1) := by decide +kernel
theorem dX7_odds_168 : decode cX7_odds 168 = .ok (.lmul, 1) := by decide +kernel
theorem dX7_odds_169 : decode cX7_odds 169 = .ok (.goto 4, 3) := by decide +kernel
theorem dX7_odds_172 : decode cX7_odds 172 = .ok (.lconst 0, 1) := by decide +kernel
theorem dX7_odds_173 : decode cX7_odds 173 = .ok (.ladd, 1) := by decide +kernel
theorem dX7_odds_174 : decode cX7_odds 174 = .ok (.lastore, 1) := by decide +kernel
theorem dX7_odds_175 : decode cX7_odds 175 = .ok (.iinc 8 (-1), 3) := by decide +kernel
theorem dX7_odds_178 : decode cX7_odds 178 = .ok (.goto (-70), 3) := by decide +kernel
theorem dX7_odds_181 : decode cX7_odds 181 = .ok (.iinc 6 1, 3) := by decide +kernel
theorem dX7_odds_184 : decode cX7_odds 184 = .ok (.goto (-110), 3) := by decide +kernel
theorem dX7_odds_187 : decode cX7_odds 187 = .ok (.lconst 0, 1) := by decide +kernel
theorem dX7_odds_188 : decode cX7_odds 188 = .ok (.lstore 6, 2) := by decide +kernel
theorem dX7_odds_190 : decode cX7_odds 190 = .ok (.iload_n 2, 1) := by decide +kernel
theorem dX7_odds_191 : decode cX7_odds 191 = .ok (.istore 8, 2) := by decide +kernel
theorem dX7_odds_193 : decode cX7_odds 193 = .ok (.iload 8, 2) := by decide +kernel
theorem dX7_odds_195 : decode cX7_odds 195 = .ok (.bipush 8, 2) := by decide +kernel
theorem dX7_odds_197 : decode cX7_odds 197 = .ok (.if_icmp .ge 21, 3) := by decide +kernel
theorem dX7_odds_200 : decode cX7_odds 200 = .ok (.lload 6, 2) := by decide +kernel
theorem dX7_odds_202 : decode cX7_odds 202 = .ok (.aload_n 0, 1) := by decide +kernel
theorem dX7_odds_203 : decode cX7_odds 203 = .ok (.getfield 38, 3) := by decide +kernel
theorem dX7_odds_206 : decode cX7_odds 206 = .ok (.iload 8, 2) := by decide +kernel
theorem dX7_odds_208 : decode cX7_odds 208 = .ok (.laload, 1) := by decide +kernel
theorem dX7_odds_209 : decode cX7_odds 209 = .ok (.ladd, 1) := by decide +kernel
theorem dX7_odds_210 : decode cX7_odds 210 = .ok (.lstore 6, 2) := by decide +kernel
theorem dX7_odds_212 : decode cX7_odds 212 = .ok (.iinc 8 1, 3) := by decide +kernel
theorem dX7_odds_215 : decode cX7_odds 215 = .ok (.goto (-22), 3) := by decide +kernel
theorem dX7_odds_218 : decode cX7_odds 218 = .ok (.lload 6, 2) := by decide +kernel
theorem dX7_odds_220 : decode cX7_odds 220 = .ok (.lload 4, 2) := by decide +kernel
theorem dX7_odds_222 : decode cX7_odds 222 = .ok (.iload_n 3, 1) := by decide +kernel
theorem dX7_odds_223 : decode cX7_odds 223 = .ok (.invokestatic 173, 3) := by decide +kernel
theorem dX7_odds_226 : decode cX7_odds 226 = .ok (.lreturn, 1) := by decide +kernel
set_option maxRecDepth 20000 in
theorem ggX7_allThere_X7_weightsOf : GoodIn wsX7_allThere wsX7_weightsOf := goodIn_r _ [11, 6, 12, 13, 14, 15, 16, 17, 18, 19, 20, 21, 22, 23, 24, 25, 26, 27, 28, 29, 30, 31, 32, 33, 34, 35] (by decide +kernel) (by decide +kernel)
set_option maxRecDepth 20000 in
theorem gX7_allThere_X7_weightsOf : GoodIn wsX7_allThere (wsV RX7 140 RX7 yX7_weightsOf wsX7_weightsOf) := goodIn_app (goodIn_of _ (by decide +kernel)) ggX7_allThere_X7_weightsOf
theorem dX7_allThere_0 : decode cX7_allThere 0 = .ok (.iconst 0, 1) := by decide +kernel
theorem dX7_allThere_1 : decode cX7_allThere 1 = .ok (.istore_n 1, 1) := by decide +kernel
theorem dX7_allThere_2 : decode cX7_allThere 2 = .ok (.iload_n 1, 1) := by decide +kernel
theorem dX7_allThere_3 : decode cX7_allThere 3 = .ok (.bipush 16, 2) := by decide +kernel
theorem dX7_allThere_5 : decode cX7_allThere 5 = .ok (.if_icmp .ge 24, 3) := by decide +kernel
theorem dX7_allThere_8 : decode cX7_allThere 8 = .ok (.aload_n 0, 1) := by decide +kernel
theorem dX7_allThere_9 : decode cX7_allThere 9 = .ok (.getfield 38, 3) := by decide +kernel
theorem dX7_allThere_12 : decode cX7_allThere 12 = .ok (.iload_n 1, 1) := by decide +kernel
theorem dX7_allThere_13 : decode cX7_allThere 13 = .ok (.iload_n 1, 1) := by decide +kernel
theorem dX7_allThere_14 : decode cX7_allThere 14 = .ok (.ifCond .ne 7, 3) := by decide +kernel
theorem dX7_allThere_17 : decode cX7_allThere 17 = .ok (.lconst 1, 1) := by decide +kernel
theorem dX7_allThere_18 : decode cX7_allThere 18 = .ok (.goto 4, 3) := by decide +kernel
theorem dX7_allThere_21 : decode cX7_allThere 21 = .ok (.lconst 0, 1) := by decide +kernel
theorem dX7_allThere_22 : decode cX7_allThere 22 = .ok (.lastore, 1) := by decide +kernel
theorem dX7_allThere_23 : decode cX7_allThere 23 = .ok (.iinc 1 1, 3) := by decide +kernel
theorem dX7_allThere_26 : decode cX7_allThere 26 = .ok (.goto (-24), 3) := by decide +kernel
theorem dX7_allThere_29 : decode cX7_allThere 29 = .ok (.aload_n 0, 1) := by decide +kernel
theorem dX7_allThere_30 : decode cX7_allThere 30 = .ok (.lconst 1, 1) := by decide +kernel
theorem dX7_allThere_31 : decode cX7_allThere 31 = .ok (.putfield 177, 3) := by decide +kernel
theorem dX7_allThere_34 : decode cX7_allThere 34 = .ok (.iconst 0, 1) := by decide +kernel
theorem dX7_allThere_35 : decode cX7_allThere 35 = .ok (.istore_n 1, 1) := by decide +kernel
theorem dX7_allThere_36 : decode cX7_allThere 36 = .ok (.iload_n 1, 1) := by decide +kernel
theorem dX7_allThere_37 : decode cX7_allThere 37 = .ok (.aload_n 0, 1) := by decide +kernel
theorem dX7_allThere_38 : decode cX7_allThere 38 = .ok (.getfield 122, 3) := by decide +kernel
theorem dX7_allThere_41 : decode cX7_allThere 41 = .ok (.if_icmp .ge 196, 3) := by decide +kernel
theorem dX7_allThere_44 : decode cX7_allThere 44 = .ok (.aload_n 0, 1) := by decide +kernel
theorem dX7_allThere_45 : decode cX7_allThere 45 = .ok (.getfield 45, 3) := by decide +kernel
theorem dX7_allThere_48 : decode cX7_allThere 48 = .ok (.iload_n 1, 1) := by decide +kernel
theorem dX7_allThere_49 : decode cX7_allThere 49 = .ok (.iaload, 1) := by decide +kernel
theorem dX7_allThere_50 : decode cX7_allThere 50 = .ok (.bipush 9, 2) := by decide +kernel
theorem dX7_allThere_52 : decode cX7_allThere 52 = .ok (.if_icmp .ne 11, 3) := by decide +kernel
theorem dX7_allThere_55 : decode cX7_allThere 55 = .ok (.aload_n 0, 1) := by decide +kernel
theorem dX7_allThere_56 : decode cX7_allThere 56 = .ok (.iload_n 1, 1) := by decide +kernel
theorem dX7_allThere_57 : decode cX7_allThere 57 = .ok (.invokevirtual 140, 3) := by decide +kernel
theorem dX7_allThere_60 : decode cX7_allThere 60 = .ok (.ifCond .le 171, 3) := by decide +kernel
theorem dX7_allThere_63 : decode cX7_allThere 63 = .ok (.iconst 0, 1) := by decide +kernel
theorem dX7_allThere_64 : decode cX7_allThere 64 = .ok (.istore_n 2, 1) := by decide +kernel
theorem dX7_allThere_65 : decode cX7_allThere 65 = .ok (.iload_n 2, 1) := by decide +kernel
theorem dX7_allThere_66 : decode cX7_allThere 66 = .ok (.bipush 16, 2) := by decide +kernel
theorem dX7_allThere_68 : decode cX7_allThere 68 = .ok (.if_icmp .ge 16, 3) := by decide +kernel
theorem dX7_allThere_71 : decode cX7_allThere 71 = .ok (.aload_n 0, 1) := by decide +kernel
theorem dX7_allThere_72 : decode cX7_allThere 72 = .ok (.getfield 42, 3) := by decide +kernel
theorem dX7_allThere_75 : decode cX7_allThere 75 = .ok (.iload_n 2, 1) := by decide +kernel
theorem dX7_allThere_76 : decode cX7_allThere 76 = .ok (.lconst 0, 1) := by decide +kernel
theorem dX7_allThere_77 : decode cX7_allThere 77 = .ok (.lastore, 1) := by decide +kernel
theorem dX7_allThere_78 : decode cX7_allThere 78 = .ok (.iinc 2 1, 3) := by decide +kernel
theorem dX7_allThere_81 : decode cX7_allThere 81 = .ok (.goto (-16), 3) := by decide +kernel
theorem dX7_allThere_84 : decode cX7_allThere 84 = .ok (.iconst 0, 1) := by decide +kernel
theorem dX7_allThere_85 : decode cX7_allThere 85 = .ok (.istore_n 2, 1) := by decide +kernel
theorem dX7_allThere_86 : decode cX7_allThere 86 = .ok (.iload_n 2, 1) := by decide +kernel
theorem dX7_allThere_87 : decode cX7_allThere 87 = .ok (.bipush 16, 2) := by decide +kernel
theorem dX7_allThere_89 : decode cX7_allThere 89 = .ok (.if_icmp .ge 86, 3) := by decide +kernel
theorem dX7_allThere_92 : decode cX7_allThere 92 = .ok (.iconst 0, 1) := by decide +kernel
theorem dX7_allThere_93 : decode cX7_allThere 93 = .ok (.istore_n 3, 1) := by decide +kernel
theorem dX7_allThere_94 : decode cX7_allThere 94 = .ok (.iload_n 3, 1) := by decide +kernel
theorem dX7_allThere_95 : decode cX7_allThere 95 = .ok (.iconst 4, 1) := by decide +kernel
theorem dX7_allThere_96 : decode cX7_allThere 96 = .ok (.if_icmp .ge 73, 3) := by decide +kernel
theorem dX7_allThere_99 : decode cX7_allThere 99 = .ok (.aload_n 0, 1) := by decide +kernel
theorem dX7_allThere_100 : decode cX7_allThere 100 = .ok (.getfield 45, 3) := by decide +kernel
theorem dX7_allThere_103 : decode cX7_allThere 103 = .ok (.iload_n 1, 1) := by decide +kernel
theorem dX7_allThere_104 : decode cX7_allThere 104 = .ok (.iaload, 1) := by decide +kernel
theorem dX7_allThere_105 : decode cX7_allThere 105 = .ok (.bipush 9, 2) := by decide +kernel
theorem dX7_allThere_107 : decode cX7_allThere 107 = .ok (.if_icmp .ne 16, 3) := by decide +kernel
theorem dX7_allThere_110 : decode cX7_allThere 110 = .ok (.aload_n 0, 1) := by decide +kernel
theorem dX7_allThere_111 : decode cX7_allThere 111 = .ok (.getfield 25, 3) := by decide +kernel
theorem dX7_allThere_114 : decode cX7_allThere 114 = .ok (.iconst 4, 1) := by decide +kernel
theorem dX7_allThere_115 : decode cX7_allThere 115 = .ok (.iload_n 1, 1) := by decide +kernel
theorem dX7_allThere_116 : decode cX7_allThere 116 = .ok (.imul, 1) := by decide +kernel
theorem dX7_allThere_117 : decode cX7_allThere 117 = .ok (.iload_n 3, 1) := by decide +kernel
theorem dX7_allThere_118 : decode cX7_allThere 118 = .ok (.iadd, 1) := by decide +kernel
theorem dX7_allThere_119 : decode cX7_allThere 119 = .ok (.iaload, 1) := by decide +kernel
theorem dX7_allThere_120 : decode cX7_allThere 120 = .ok (.goto 18, 3) := by decide +kernel
theorem dX7_allThere_123 : decode cX7_allThere 123 = .ok (.aload_n 0, 1) := by decide +kernel
theorem dX7_allThere_124 : decode cX7_allThere 124 = .ok (.getfield 45, 3) := by decide +kernel
theorem dX7_allThere_127 : decode cX7_allThere 127 = .ok (.iload_n 1, 1) := by decide +kernel
theorem dX7_allThere_128 : decode cX7_allThere 128 = .ok (.iaload, 1) := by decide +kernel
theorem dX7_allThere_129 : decode cX7_allThere 129 = .ok (.iload_n 3, 1) := by decide +kernel
theorem dX7_allThere_130 : decode cX7_allThere 130 = .ok (.if_icmp .ne 7, 3) := by decide +kernel
theorem dX7_allThere_133 : decode cX7_allThere 133 = .ok (.iconst 1, 1) := by decide +kernel
theorem dX7_allThere_134 : decode cX7_allThere 134 = .ok (.goto 4, 3) := by decide +kernel
theorem dX7_allThere_137 : decode cX7_allThere 137 = .ok (.iconst 0, 1) := by decide +kernel
theorem dX7_allThere_138 : decode cX7_allThere 138 = .ok (.istore 4, 2) := by decide +kernel
theorem dX7_allThere_140 : decode cX7_allThere 140 = .ok (.aload_n 0, 1) := by decide +kernel
theorem dX7_allThere_141 : decode cX7_allThere 141 = .ok (.getfield 42, 3) := by decide +kernel
theorem dX7_allThere_144 : decode cX7_allThere 144 = .ok (.iload_n 2, 1) := by decide +kernel
theorem dX7_allThere_145 : decode cX7_allThere 145 = .ok (.iconst 1, 1) := by decide +kernel
theorem dX7_allThere_146 : decode cX7_allThere 146 = .ok (.iload_n 3, 1) := by decide +kernel
theorem dX7_allThere_147 : decode cX7_allThere 147 = .ok (.ishl, 1) := by decide +kernel
theorem dX7_allThere_148 : decode cX7_allThere 148 = .ok (.ior, 1) := by decide +kernel
theorem dX7_allThere_149 : decode cX7_allThere 149 = .ok (.dup2, 1) := by decide +kernel
theorem dX7_allThere_150 : decode cX7_allThere 150 = .ok (.laload, 1) := by decide +kernel
theorem dX7_allThere_151 : decode cX7_allThere 151 = .ok (.aload_n 0, 1) := by decide +kernel
theorem dX7_allThere_152 : decode cX7_allThere 152 = .ok (.getfield 38, 3) := by decide +kernel
theorem dX7_allThere_155 : decode cX7_allThere 155 = .ok (.iload_n 2, 1) := by decide +kernel
theorem dX7_allThere_156 : decode cX7_allThere 156 = .ok (.laload, 1) := by decide +kernel
theorem dX7_allThere_157 : decode cX7_allThere 157 = .ok (.iload 4, 2) := by decide +kernel
theorem dX7_allThere_159 : decode cX7_allThere 159 = .ok (.i2l, 1) := by decide +kernel
theorem dX7_allThere_160 : decode cX7_allThere 160 = .ok (.lmul, 1) := by decide +kernel
theorem dX7_allThere_161 : decode cX7_allThere 161 = .ok (.ladd, 1) := by decide +kernel
theorem dX7_allThere_162 : decode cX7_allThere 162 = .ok (.lastore, 1) := by decide +kernel
theorem dX7_allThere_163 : decode cX7_allThere 163 = .ok (.iinc 3 1, 3) := by decide +kernel
theorem dX7_allThere_166 : decode cX7_allThere 166 = .ok (.goto (-72), 3) := by decide +kernel
theorem dX7_allThere_169 : decode cX7_allThere 169 = .ok (.iinc 2 1, 3) := by decide +kernel
theorem dX7_allThere_172 : decode cX7_allThere 172 = .ok (.goto (-86), 3) := by decide +kernel
theorem dX7_allThere_175 : decode cX7_allThere 175 = .ok (.iconst 0, 1) := by decide +kernel
theorem dX7_allThere_176 : decode cX7_allThere 176 = .ok (.istore_n 2, 1) := by decide +kernel
theorem dX7_allThere_177 : decode cX7_allThere 177 = .ok (.iload_n 2, 1) := by decide +kernel
theorem dX7_allThere_178 : decode cX7_allThere 178 = .ok (.bipush 16, 2) := by decide +kernel
theorem dX7_allThere_180 : decode cX7_allThere 180 = .ok (.if_icmp .ge 21, 3) := by decide +kernel
theorem dX7_allThere_183 : decode cX7_allThere 183 = .ok (.aload_n 0, 1) := by decide +kernel
theorem dX7_allThere_184 : decode cX7_allThere 184 = .ok (.getfield 38, 3) := by decide +kernel
theorem dX7_allThere_187 : decode cX7_allThere 187 = .ok (.iload_n 2, 1) := by decide +kernel
theorem dX7_allThere_188 : decode cX7_allThere 188 = .ok (.aload_n 0, 1) := by decide +kernel
theorem dX7_allThere_189 : decode cX7_allThere 189 = .ok (.getfield 42, 3) := by decide +kernel
theorem dX7_allThere_192 : decode cX7_allThere 192 = .ok (.iload_n 2, 1) := by decide +kernel
theorem dX7_allThere_193 : decode cX7_allThere 193 = .ok (.laload, 1) := by decide +kernel
theorem dX7_allThere_194 : decode cX7_allThere 194 = .ok (.lastore, 1) := by decide +kernel
theorem dX7_allThere_195 : decode cX7_allThere 195 = .ok (.iinc 2 1, 3) := by decide +kernel
theorem dX7_allThere_198 : decode cX7_allThere 198 = .ok (.goto (-21), 3) := by decide +kernel
theorem dX7_allThere_201 : decode cX7_allThere 201 = .ok (.aload_n 0, 1) := by decide +kernel
theorem dX7_allThere_202 : decode cX7_allThere 202 = .ok (.dup, 1) := by decide +kernel
theorem dX7_allThere_203 : decode cX7_allThere 203 = .ok (.getfield 177, 3) := by decide +kernel
theorem dX7_allThere_206 : decode cX7_allThere 206 = .ok (.aload_n 0, 1) := by decide +kernel
theorem dX7_allThere_207 : decode cX7_allThere 207 = .ok (.getfield 45, 3) := by decide +kernel
theorem dX7_allThere_210 : decode cX7_allThere 210 = .ok (.iload_n 1, 1) := by decide +kernel
theorem dX7_allThere_211 : decode cX7_allThere 211 = .ok (.iaload, 1) := by decide +kernel
theorem dX7_allThere_212 : decode cX7_allThere 212 = .ok (.bipush 9, 2) := by decide +kernel
theorem dX7_allThere_214 : decode cX7_allThere 214 = .ok (.if_icmp .ne 12, 3) := by decide +kernel
theorem dX7_allThere_217 : decode cX7_allThere 217 = .ok (.aload_n 0, 1) := by decide +kernel
theorem dX7_allThere_218 : decode cX7_allThere 218 = .ok (.iload_n 1, 1) := by decide +kernel
theorem dX7_allThere_219 : decode cX7_allThere 219 = .ok (.invokevirtual 140, 3) := by decide +kernel
theorem dX7_allThere_222 : decode cX7_allThere 222 = .ok (.i2l, 1) := by decide +kernel
theorem dX7_allThere_223 : decode cX7_allThere 223 = .ok (.goto 4, 3) := by decide +kernel
theorem dX7_allThere_226 : decode cX7_allThere 226 = .ok (.lconst 1, 1) := by decide +kernel
theorem dX7_allThere_227 : decode cX7_allThere 227 = .ok (.lmul, 1) := by decide +kernel
theorem dX7_allThere_228 : decode cX7_allThere 228 = .ok (.putfield 177, 3) := by decide +kernel
theorem dX7_allThere_231 : decode cX7_allThere 231 = .ok (.iinc 1 1, 3) := by decide +kernel
theorem dX7_allThere_234 : decode cX7_allThere 234 = .ok (.goto (-198), 3) := by decide +kernel
theorem dX7_allThere_237 : decode cX7_allThere 237 = .ok (.aload_n 0, 1) := by decide +kernel
theorem dX7_allThere_238 : decode cX7_allThere 238 = .ok (.getfield 38, 3) := by decide +kernel
theorem dX7_allThere_241 : decode cX7_allThere 241 = .ok (.bipush 15, 2) := by decide +kernel
theorem dX7_allThere_243 : decode cX7_allThere 243 = .ok (.laload, 1) := by decide +kernel
theorem dX7_allThere_244 : decode cX7_allThere 244 = .ok (.lreturn, 1) := by decide +kernel
theorem dX7_nobodyTold_0 : decode cX7_nobodyTold 0 = .ok (.iconst 0, 1) := by decide +kernel
theorem dX7_nobodyTold_1 : decode cX7_nobodyTold 1 = .ok (.istore_n 1, 1) := by decide +kernel
theorem dX7_nobodyTold_2 : decode cX7_nobodyTold 2 = .ok (.iload_n 1, 1) := by decide +kernel
theorem dX7_nobodyTold_3 : decode cX7_nobodyTold 3 = .ok (.bipush 6, 2) := by decide +kernel
theorem dX7_nobodyTold_5 : decode cX7_nobodyTold 5 = .ok (.if_icmp .ge 17, 3) := by decide +kernel
theorem dX7_nobodyTold_8 : decode cX7_nobodyTold 8 = .ok (.aload_n 0, 1) := by decide +kernel
theorem dX7_nobodyTold_9 : decode cX7_nobodyTold 9 = .ok (.getfield 45, 3) := by decide +kernel
theorem dX7_nobodyTold_12 : decode cX7_nobodyTold 12 = .ok (.iload_n 1, 1) := by decide +kernel
theorem dX7_nobodyTold_13 : decode cX7_nobodyTold 13 = .ok (.bipush 9, 2) := by decide +kernel
theorem dX7_nobodyTold_15 : decode cX7_nobodyTold 15 = .ok (.iastore, 1) := by decide +kernel
theorem dX7_nobodyTold_16 : decode cX7_nobodyTold 16 = .ok (.iinc 1 1, 3) := by decide +kernel
theorem dX7_nobodyTold_19 : decode cX7_nobodyTold 19 = .ok (.goto (-17), 3) := by decide +kernel
theorem dX7_nobodyTold_22 : decode cX7_nobodyTold 22 = .ok (.return_, 1) := by decide +kernel
set_option maxRecDepth 20000 in
theorem ggX7_all_X7_in : GoodIn wsX7_all wsX7_in := goodIn_r _ [7] (by decide +kernel) (by decide +kernel)
set_option maxRecDepth 20000 in
theorem gX7_all_X7_in : GoodIn wsX7_all (va_wsS RX7 58 yX7_in wsX7_in) := goodIn_app (goodIn_of _ (by decide +kernel)) ggX7_all_X7_in
set_option maxRecDepth 20000 in
theorem ggX7_all_X7_nobodyTold : GoodIn wsX7_all wsX7_nobodyTold := goodIn_r _ [11, 12, 31, 32, 33, 34, 35, 36, 37, 38, 39, 40, 41, 42, 43, 44, 45, 46, 47, 48, 49, 50, 51, 52, 53, 54] (by decide +kernel) (by decide +kernel)
set_option maxRecDepth 20000 in
theorem gX7_all_X7_nobodyTold : GoodIn wsX7_all (wsV RX7 181 RX7 yX7_nobodyTold wsX7_nobodyTold) := goodIn_app (goodIn_of _ (by decide +kernel)) ggX7_all_X7_nobodyTold
set_option maxRecDepth 20000 in
theorem ggX7_all_X7_allThere : GoodIn wsX7_all wsX7_allThere := goodIn_r _ [16, 17, 3, 18, 12, 19, 20, 21, 22, 23, 6, 24, 31, 32, 33, 34, 35, 36, 37, 38, 39, 40, 41, 42, 43, 44, 45, 46, 47, 48, 49, 50, 51, 52, 53, 54] (by decide +kernel) (by decide +kernel)
set_option maxRecDepth 20000 in
theorem gX7_all_X7_allThere : GoodIn wsX7_all (wsV RX7 184 RX7 yX7_allThere wsX7_allThere) := goodIn_app (goodIn_of _ (by decide +kernel)) ggX7_all_X7_allThere
set_option maxRecDepth 20000 in
theorem ggX7_all_X7_inLeastTerms : GoodIn wsX7_all wsX7_inLeastTerms := goodIn_r _ [27, 28, 29, 6, 30] (by decide +kernel) (by decide +kernel)
set_option maxRecDepth 20000 in
theorem gX7_all_X7_inLeastTerms : GoodIn wsX7_all (va_wsS RX7 173 yX7_inLeastTerms wsX7_inLeastTerms) := goodIn_app (goodIn_of _ (by decide +kernel)) ggX7_all_X7_inLeastTerms
theorem dX7_all_0 : decode cX7_all 0 = .ok (.aload_n 0, 1) := by decide +kernel
theorem dX7_all_1 : decode cX7_all 1 = .ok (.iconst 0, 1) := by decide +kernel
theorem dX7_all_2 : decode cX7_all 2 = .ok (.putfield 54, 3) := by decide +kernel
theorem dX7_all_5 : decode cX7_all 5 = .ok (.iload_n 1, 1) := by decide +kernel
theorem dX7_all_6 : decode cX7_all 6 = .ok (.iconst 0, 1) := by decide +kernel
theorem dX7_all_7 : decode cX7_all 7 = .ok (.iconst 1, 1) := by decide +kernel
theorem dX7_all_8 : decode cX7_all 8 = .ok (.invokestatic 58, 3) := by decide +kernel
theorem dX7_all_11 : decode cX7_all 11 = .ok (.ifCond .ne 7, 3) := by decide +kernel
theorem dX7_all_14 : decode cX7_all 14 = .ok (.ldc2_w 171, 3) := by decide +kernel
theorem dX7_all_17 : decode cX7_all 17 = .ok (.lreturn, 1) := by decide +kernel
theorem dX7_all_18 : decode cX7_all 18 = .ok (.aload_n 0, 1) := by decide +kernel
theorem dX7_all_19 : decode cX7_all 19 = .ok (.invokevirtual 181, 3) := by decide +kernel
theorem dX7_all_22 : decode cX7_all 22 = .ok (.aload_n 0, 1) := by decide +kernel
theorem dX7_all_23 : decode cX7_all 23 = .ok (.invokevirtual 184, 3) := by decide +kernel
theorem dX7_all_26 : decode cX7_all 26 = .ok (.lstore_n 2, 1) := by decide +kernel
theorem dX7_all_27 : decode cX7_all 27 = .ok (.lload_n 2, 1) := by decide +kernel
theorem dX7_all_28 : decode cX7_all 28 = .ok (.aload_n 0, 1) := by decide +kernel
theorem dX7_all_29 : decode cX7_all 29 = .ok (.getfield 177, 3) := by decide +kernel
theorem dX7_all_32 : decode cX7_all 32 = .ok (.iload_n 1, 1) := by decide +kernel
theorem dX7_all_33 : decode cX7_all 33 = .ok (.invokestatic 173, 3) := by decide +kernel
theorem dX7_all_36 : decode cX7_all 36 = .ok (.lreturn, 1) := by decide +kernel
set_option maxRecDepth 20000 in
theorem ggX7_call_X7_in : GoodIn wsX7_call wsX7_in := goodIn_r _ [10] (by decide +kernel) (by decide +kernel)
set_option maxRecDepth 20000 in
theorem gX7_call_X7_in : GoodIn wsX7_call (va_wsS RX7 58 yX7_in wsX7_in) := goodIn_app (goodIn_of _ (by decide +kernel)) ggX7_call_X7_in
set_option maxRecDepth 20000 in
theorem ggX7_call_X7_isHouse : GoodIn wsX7_call wsX7_isHouse := goodIn_r _ [14, 2, 7, 8, 9, 10, 29, 30, 31, 32, 33, 34, 35, 36, 37, 38, 39, 40, 41, 42, 43, 44, 45, 46, 47, 48, 49, 50, 51, 52] (by decide +kernel) (by decide +kernel)
set_option maxRecDepth 20000 in
theorem gX7_call_X7_isHouse : GoodIn wsX7_call (wsV RX7 128 RX7 yX7_isHouse wsX7_isHouse) := goodIn_app (goodIn_of _ (by decide +kernel)) ggX7_call_X7_isHouse
set_option maxRecDepth 20000 in
theorem ggX7_call_X7_nobodyTold : GoodIn wsX7_call wsX7_nobodyTold := goodIn_r _ [18, 3, 29, 30, 31, 32, 33, 34, 35, 36, 37, 38, 39, 40, 41, 42, 43, 44, 45, 46, 47, 48, 49, 50, 51, 52] (by decide +kernel) (by decide +kernel)
set_option maxRecDepth 20000 in
theorem gX7_call_X7_nobodyTold : GoodIn wsX7_call (wsV RX7 181 RX7 yX7_nobodyTold wsX7_nobodyTold) := goodIn_app (goodIn_of _ (by decide +kernel)) ggX7_call_X7_nobodyTold
set_option maxRecDepth 20000 in
theorem ggX7_call_X7_allThere : GoodIn wsX7_call wsX7_allThere := goodIn_r _ [22, 23, 5, 2, 3, 24, 4, 25, 26, 27, 9, 28, 29, 30, 31, 32, 33, 34, 35, 36, 37, 38, 39, 40, 41, 42, 43, 44, 45, 46, 47, 48, 49, 50, 51, 52] (by decide +kernel) (by decide +kernel)
set_option maxRecDepth 20000 in
theorem gX7_call_X7_allThere : GoodIn wsX7_call (wsV RX7 184 RX7 yX7_allThere wsX7_allThere) := goodIn_app (goodIn_of _ (by decide +kernel)) ggX7_call_X7_allThere
theorem dX7_call_0 : decode cX7_call 0 = .ok (.aload_n 0, 1) := by decide +kernel
theorem dX7_call_1 : decode cX7_call 1 = .ok (.iconst 0, 1) := by decide +kernel
theorem dX7_call_2 : decode cX7_call 2 = .ok (.putfield 54, 3) := by decide +kernel
theorem dX7_call_5 : decode cX7_call 5 = .ok (.iload_n 2, 1) := by decide +kernel
theorem dX7_call_6 : decode cX7_call 6 = .ok (.iconst 1, 1) := by decide +kernel
theorem dX7_call_7 : decode cX7_call 7 = .ok (.bipush 99, 2) := by decide +kernel
theorem dX7_call_9 : decode cX7_call 9 = .ok (.invokestatic 58, 3) := by decide +kernel
theorem dX7_call_12 : decode cX7_call 12 = .ok (.ifCond .eq 35, 3) := by decide +kernel
theorem dX7_call_15 : decode cX7_call 15 = .ok (.iload_n 1, 1) := by decide +kernel
theorem dX7_call_16 : decode cX7_call 16 = .ok (.iconst 0, 1) := by decide +kernel
theorem dX7_call_17 : decode cX7_call 17 = .ok (.iload_n 2, 1) := by decide +kernel
theorem dX7_call_18 : decode cX7_call 18 = .ok (.invokestatic 58, 3) := by decide +kernel
theorem dX7_call_21 : decode cX7_call 21 = .ok (.ifCond .eq 26, 3) := by decide +kernel
theorem dX7_call_24 : decode cX7_call 24 = .ok (.iload_n 1, 1) := by decide +kernel
theorem dX7_call_25 : decode cX7_call 25 = .ok (.iconst 0, 1) := by decide +kernel
theorem dX7_call_26 : decode cX7_call 26 = .ok (.bipush 99, 2) := by decide +kernel
theorem dX7_call_28 : decode cX7_call 28 = .ok (.invokestatic 58, 3) := by decide +kernel
theorem dX7_call_31 : decode cX7_call 31 = .ok (.ifCond .eq 16, 3) := by decide +kernel
theorem dX7_call_34 : decode cX7_call 34 = .ok (.iload_n 3, 1) := by decide +kernel
theorem dX7_call_35 : decode cX7_call 35 = .ok (.iconst (-1), 1) := by decide +kernel
theorem dX7_call_36 : decode cX7_call 36 = .ok (.if_icmp .eq 13, 3) := by decide +kernel
theorem dX7_call_39 : decode cX7_call 39 = .ok (.aload_n 0, 1) := by decide +kernel
theorem dX7_call_40 : decode cX7_call 40 = .ok (.iload_n 3, 1) := by decide +kernel
theorem dX7_call_41 : decode cX7_call 41 = .ok (.invokevirtual 128, 3) := by decide +kernel
theorem dX7_call_44 : decode cX7_call 44 = .ok (.ifCond .ne 5, 3) := by decide +kernel
theorem dX7_call_47 : decode cX7_call 47 = .ok (.iconst (-1), 1) := by decide +kernel
theorem dX7_call_48 : decode cX7_call 48 = .ok (.ireturn, 1) := by decide +kernel
theorem dX7_call_49 : decode cX7_call 49 = .ok (.bipush (-9), 2) := by decide +kernel
theorem dX7_call_51 : decode cX7_call 51 = .ok (.istore 4, 2) := by decide +kernel
theorem dX7_call_53 : decode cX7_call 53 = .ok (.iconst 1, 1) := by decide +kernel
theorem dX7_call_54 : decode cX7_call 54 = .ok (.istore 5, 2) := by decide +kernel
theorem dX7_call_56 : decode cX7_call 56 = .ok (.iconst 0, 1) := by decide +kernel
theorem dX7_call_57 : decode cX7_call 57 = .ok (.istore 6, 2) := by decide +kernel
theorem dX7_call_59 : decode cX7_call 59 = .ok (.iload 6, 2) := by decide +kernel
theorem dX7_call_61 : decode cX7_call 61 = .ok (.aload_n 0, 1) := by decide +kernel
theorem dX7_call_62 : decode cX7_call 62 = .ok (.getfield 122, 3) := by decide +kernel
theorem dX7_call_65 : decode cX7_call 65 = .ok (.if_icmp .ge 15, 3) := by decide +kernel
theorem dX7_call_68 : decode cX7_call 68 = .ok (.iload 5, 2) := by decide +kernel
theorem dX7_call_70 : decode cX7_call 70 = .ok (.iconst 5, 1) := by decide +kernel
theorem dX7_call_71 : decode cX7_call 71 = .ok (.imul, 1) := by decide +kernel
theorem dX7_call_72 : decode cX7_call 72 = .ok (.istore 5, 2) := by decide +kernel
theorem dX7_call_74 : decode cX7_call 74 = .ok (.iinc 6 1, 3) := by decide +kernel
theorem dX7_call_77 : decode cX7_call 77 = .ok (.goto (-18), 3) := by decide +kernel
theorem dX7_call_80 : decode cX7_call 80 = .ok (.aload_n 0, 1) := by decide +kernel
theorem dX7_call_81 : decode cX7_call 81 = .ok (.invokevirtual 181, 3) := by decide +kernel
theorem dX7_call_84 : decode cX7_call 84 = .ok (.iconst 0, 1) := by decide +kernel
theorem dX7_call_85 : decode cX7_call 85 = .ok (.istore 6, 2) := by decide +kernel
theorem dX7_call_87 : decode cX7_call 87 = .ok (.iload 6, 2) := by decide +kernel
theorem dX7_call_89 : decode cX7_call 89 = .ok (.iload 5, 2) := by decide +kernel
theorem dX7_call_91 : decode cX7_call 91 = .ok (.if_icmp .ge 202, 3) := by decide +kernel
theorem dX7_call_94 : decode cX7_call 94 = .ok (.iload 6, 2) := by decide +kernel
theorem dX7_call_96 : decode cX7_call 96 = .ok (.istore 7, 2) := by decide +kernel
theorem dX7_call_98 : decode cX7_call 98 = .ok (.iconst 0, 1) := by decide +kernel
theorem dX7_call_99 : decode cX7_call 99 = .ok (.istore 8, 2) := by decide +kernel
theorem dX7_call_101 : decode cX7_call 101 = .ok (.iconst 1, 1) := by decide +kernel
theorem dX7_call_102 : decode cX7_call 102 = .ok (.istore 9, 2) := by decide +kernel
theorem dX7_call_104 : decode cX7_call 104 = .ok (.aload_n 0, 1) := by decide +kernel
theorem dX7_call_105 : decode cX7_call 105 = .ok (.getfield 122, 3) := by decide +kernel
theorem dX7_call_108 : decode cX7_call 108 = .ok (.iconst 1, 1) := by decide +kernel
theorem dX7_call_109 : decode cX7_call 109 = .ok (.isub, 1) := by decide +kernel
theorem dX7_call_110 : decode cX7_call 110 = .ok (.istore 10, 2) := by decide +kernel
theorem dX7_call_112 : decode cX7_call 112 = .ok (.iload 10, 2) := by decide +kernel
theorem dX7_call_114 : decode cX7_call 114 = .ok (.ifCond .lt 98, 3) := by decide +kernel
theorem dX7_call_117 : decode cX7_call 117 = .ok (.iload 7, 2) := by decide +kernel
theorem dX7_call_119 : decode cX7_call 119 = .ok (.iconst 5, 1) := by decide +kernel
theorem dX7_call_120 : decode cX7_call 120 = .ok (.irem, 1) := by decide +kernel
theorem dX7_call_121 : decode cX7_call 121 = .ok (.iconst 1, 1) := by decide +kernel
theorem dX7_call_122 : decode cX7_call 122 = .ok (.isub, 1) := by decide +kernel
theorem dX7_call_123 : decode cX7_call 123 = .ok (.istore 11, 2) := by decide +kernel
theorem dX7_call_125 : decode cX7_call 125 = .ok (.iload 7, 2) := by decide +kernel
theorem dX7_call_127 : decode cX7_call 127 = .ok (.iconst 5, 1) := by decide +kernel
theorem dX7_call_128 : decode cX7_call 128 = .ok (.idiv, 1) := by decide +kernel
theorem dX7_call_129 : decode cX7_call 129 = .ok (.istore 7, 2) := by decide +kernel
theorem dX7_call_131 : decode cX7_call 131 = .ok (.aload_n 0, 1) := by decide +kernel
theorem dX7_call_132 : decode cX7_call 132 = .ok (.getfield 45, 3) := by decide +kernel
theorem dX7_call_135 : decode cX7_call 135 = .ok (.iload 10, 2) := by decide +kernel
theorem dX7_call_137 : decode cX7_call 137 = .ok (.iload 11, 2) := by decide +kernel
theorem dX7_call_139 : decode cX7_call 139 = .ok (.ifCond .ge 8, 3) := by decide +kernel
theorem dX7_call_142 : decode cX7_call 142 = .ok (.bipush 9, 2) := by decide +kernel
theorem dX7_call_144 : decode cX7_call 144 = .ok (.goto 5, 3) := by decide +kernel
theorem dX7_call_147 : decode cX7_call 147 = .ok (.iload 11, 2) := by decide +kernel
theorem dX7_call_149 : decode cX7_call 149 = .ok (.iastore, 1) := by decide +kernel
theorem dX7_call_150 : decode cX7_call 150 = .ok (.iload 8, 2) := by decide +kernel
theorem dX7_call_152 : decode cX7_call 152 = .ok (.iload 11, 2) := by decide +kernel
theorem dX7_call_154 : decode cX7_call 154 = .ok (.ifCond .ge 7, 3) := by decide +kernel
theorem dX7_call_157 : decode cX7_call 157 = .ok (.iconst 0, 1) := by decide +kernel
theorem dX7_call_158 : decode cX7_call 158 = .ok (.goto 4, 3) := by decide +kernel
theorem dX7_call_161 : decode cX7_call 161 = .ok (.iconst 1, 1) := by decide +kernel
theorem dX7_call_162 : decode cX7_call 162 = .ok (.iadd, 1) := by decide +kernel
theorem dX7_call_163 : decode cX7_call 163 = .ok (.istore 8, 2) := by decide +kernel
theorem dX7_call_165 : decode cX7_call 165 = .ok (.iload 9, 2) := by decide +kernel
theorem dX7_call_167 : decode cX7_call 167 = .ok (.ifCond .eq 36, 3) := by decide +kernel
theorem dX7_call_170 : decode cX7_call 170 = .ok (.iload 11, 2) := by decide +kernel
theorem dX7_call_172 : decode cX7_call 172 = .ok (.ifCond .lt 27, 3) := by decide +kernel
theorem dX7_call_175 : decode cX7_call 175 = .ok (.aload_n 0, 1) := by decide +kernel
theorem dX7_call_176 : decode cX7_call 176 = .ok (.getfield 25, 3) := by decide +kernel
theorem dX7_call_179 : decode cX7_call 179 = .ok (.iconst 4, 1) := by decide +kernel
theorem dX7_call_180 : decode cX7_call 180 = .ok (.iload 10, 2) := by decide +kernel
theorem dX7_call_182 : decode cX7_call 182 = .ok (.imul, 1) := by decide +kernel
theorem dX7_call_183 : decode cX7_call 183 = .ok (.iload 11, 2) := by decide +kernel
theorem dX7_call_185 : decode cX7_call 185 = .ok (.ifCond .ge 7, 3) := by decide +kernel
theorem dX7_call_188 : decode cX7_call 188 = .ok (.iconst 0, 1) := by decide +kernel
theorem dX7_call_189 : decode cX7_call 189 = .ok (.goto 5, 3) := by decide +kernel
theorem dX7_call_192 : decode cX7_call 192 = .ok (.iload 11, 2) := by decide +kernel
theorem dX7_call_194 : decode cX7_call 194 = .ok (.iadd, 1) := by decide +kernel
theorem dX7_call_195 : decode cX7_call 195 = .ok (.iaload, 1) := by decide +kernel
theorem dX7_call_196 : decode cX7_call 196 = .ok (.ifCond .le 7, 3) := by decide +kernel
theorem dX7_call_199 : decode cX7_call 199 = .ok (.iconst 1, 1) := by decide +kernel
theorem dX7_call_200 : decode cX7_call 200 = .ok (.goto 4, 3) := by decide +kernel
theorem dX7_call_203 : decode cX7_call 203 = .ok (.iconst 0, 1) := by decide +kernel
theorem dX7_call_204 : decode cX7_call 204 = .ok (.istore 9, 2) := by decide +kernel
theorem dX7_call_206 : decode cX7_call 206 = .ok (.iinc 10 (-1), 3) := by decide +kernel
theorem dX7_call_209 : decode cX7_call 209 = .ok (.goto (-97), 3) := by decide +kernel
theorem dX7_call_212 : decode cX7_call 212 = .ok (.iload 9, 2) := by decide +kernel
theorem dX7_call_214 : decode cX7_call 214 = .ok (.ifCond .eq 73, 3) := by decide +kernel
theorem dX7_call_217 : decode cX7_call 217 = .ok (.iload 4, 2) := by decide +kernel
theorem dX7_call_219 : decode cX7_call 219 = .ok (.bipush (-9), 2) := by decide +kernel
theorem dX7_call_221 : decode cX7_call 221 = .ok (.if_icmp .eq 10, 3) := by decide +kernel
theorem dX7_call_224 : decode cX7_call 224 = .ok (.iload 8, 2) := by decide +kernel
theorem dX7_call_226 : decode cX7_call 226 = .ok (.iload 4, 2) := by decide +kernel
theorem dX7_call_228 : decode cX7_call 228 = .ok (.if_icmp .ge 59, 3) := by decide +kernel
theorem dX7_call_231 : decode cX7_call 231 = .ok (.aload_n 0, 1) := by decide +kernel
theorem dX7_call_232 : decode cX7_call 232 = .ok (.invokevirtual 184, 3) := by decide +kernel
theorem dX7_call_235 : decode cX7_call 235 = .ok (.lstore 10, 2) := by decide +kernel
theorem dX7_call_237 : decode cX7_call 237 = .ok (.lload 10, 2) := by decide +kernel
theorem dX7_call_239 : decode cX7_call 239 = .ok (.iload_n 2, 1) := by decide +kernel
theorem dX7_call_240 : decode cX7_call 240 = .ok (.i2l, 1) := by decide +kernel
theorem dX7_call_241 : decode cX7_call 241 = .ok (.lmul, 1) := by decide +kernel
theorem dX7_call_242 : decode cX7_call 242 = .ok (.iload_n 1, 1) := by decide +kernel
theorem dX7_call_243 : decode cX7_call 243 = .ok (.i2l, 1) := by decide +kernel
theorem dX7_call_244 : decode cX7_call 244 = .ok (.aload_n 0, 1) := by decide +kernel
theorem dX7_call_245 : decode cX7_call 245 = .ok (.getfield 177, 3) := by decide +kernel
theorem dX7_call_248 : decode cX7_call 248 = .ok (.lmul, 1) := by decide +kernel
theorem dX7_call_249 : decode cX7_call 249 = .ok (.lcmp, 1) := by decide +kernel
theorem dX7_call_250 : decode cX7_call 250 = .ok (.ifCond .lt 37, 3) := by decide +kernel
theorem dX7_call_253 : decode cX7_call 253 = .ok (.iload 8, 2) := by decide +kernel
theorem dX7_call_255 : decode cX7_call 255 = .ok (.istore 4, 2) := by decide +kernel
theorem dX7_call_257 : decode cX7_call 257 = .ok (.iconst 0, 1) := by decide +kernel
theorem dX7_call_258 : decode cX7_call 258 = .ok (.istore 12, 2) := by decide +kernel
theorem dX7_call_260 : decode cX7_call 260 = .ok (.iload 12, 2) := by decide +kernel
theorem dX7_call_262 : decode cX7_call 262 = .ok (.bipush 6, 2) := by decide +kernel
theorem dX7_call_264 : decode cX7_call 264 = .ok (.if_icmp .ge 23, 3) := by decide +kernel
theorem dX7_call_267 : decode cX7_call 267 = .ok (.aload_n 0, 1) := by decide +kernel
theorem dX7_call_268 : decode cX7_call 268 = .ok (.getfield 48, 3) := by decide +kernel
theorem dX7_call_271 : decode cX7_call 271 = .ok (.iload 12, 2) := by decide +kernel
theorem dX7_call_273 : decode cX7_call 273 = .ok (.aload_n 0, 1) := by decide +kernel
theorem dX7_call_274 : decode cX7_call 274 = .ok (.getfield 45, 3) := by decide +kernel
theorem dX7_call_277 : decode cX7_call 277 = .ok (.iload 12, 2) := by decide +kernel
theorem dX7_call_279 : decode cX7_call 279 = .ok (.iaload, 1) := by decide +kernel
theorem dX7_call_280 : decode cX7_call 280 = .ok (.iastore, 1) := by decide +kernel
theorem dX7_call_281 : decode cX7_call 281 = .ok (.iinc 12 1, 3) := by decide +kernel
theorem dX7_call_284 : decode cX7_call 284 = .ok (.goto (-24), 3) := by decide +kernel
theorem dX7_call_287 : decode cX7_call 287 = .ok (.iinc 6 1, 3) := by decide +kernel
theorem dX7_call_290 : decode cX7_call 290 = .ok (.goto (-203), 3) := by decide +kernel
theorem dX7_call_293 : decode cX7_call 293 = .ok (.iload 4, 2) := by decide +kernel
theorem dX7_call_295 : decode cX7_call 295 = .ok (.bipush (-9), 2) := by decide +kernel
theorem dX7_call_297 : decode cX7_call 297 = .ok (.if_icmp .eq 7, 3) := by decide +kernel
theorem dX7_call_300 : decode cX7_call 300 = .ok (.iload_n 3, 1) := by decide +kernel
theorem dX7_call_301 : decode cX7_call 301 = .ok (.ifCond .ge 8, 3) := by decide +kernel
theorem dX7_call_304 : decode cX7_call 304 = .ok (.iload 4, 2) := by decide +kernel
theorem dX7_call_306 : decode cX7_call 306 = .ok (.goto 9, 3) := by decide +kernel
theorem dX7_call_309 : decode cX7_call 309 = .ok (.aload_n 0, 1) := by decide +kernel
theorem dX7_call_310 : decode cX7_call 310 = .ok (.getfield 48, 3) := by decide +kernel
theorem dX7_call_313 : decode cX7_call 313 = .ok (.iload_n 3, 1) := by decide +kernel
theorem dX7_call_314 : decode cX7_call 314 = .ok (.iaload, 1) := by decide +kernel
theorem dX7_call_315 : decode cX7_call 315 = .ok (.ireturn, 1) := by decide +kernel
set_option maxRecDepth 20000 in
theorem ggX7_shared_X7_spoonsOf : GoodIn wsX7_shared wsX7_spoonsOf := goodIn_r _ [9, 2, 10, 4, 11, 12, 13, 14, 15, 16, 17, 18, 19, 20, 21, 22, 23, 24, 25, 26, 27, 28, 29, 30, 31, 32, 33, 34, 35] (by decide +kernel) (by decide +kernel)
set_option maxRecDepth 20000 in
theorem gX7_shared_X7_spoonsOf : GoodIn wsX7_shared (wsV RX7 155 RX7 yX7_spoonsOf wsX7_spoonsOf) := goodIn_app (goodIn_of _ (by decide +kernel)) ggX7_shared_X7_spoonsOf
theorem dX7_shared_0 : decode cX7_shared 0 = .ok (.aload_n 0, 1) := by decide +kernel
theorem dX7_shared_1 : decode cX7_shared 1 = .ok (.iconst 0, 1) := by decide +kernel
theorem dX7_shared_2 : decode cX7_shared 2 = .ok (.putfield 54, 3) := by decide +kernel
theorem dX7_shared_5 : decode cX7_shared 5 = .ok (.bipush (-9), 2) := by decide +kernel
theorem dX7_shared_7 : decode cX7_shared 7 = .ok (.istore_n 1, 1) := by decide +kernel
theorem dX7_shared_8 : decode cX7_shared 8 = .ok (.iconst 0, 1) := by decide +kernel
theorem dX7_shared_9 : decode cX7_shared 9 = .ok (.istore_n 2, 1) := by decide +kernel
theorem dX7_shared_10 : decode cX7_shared 10 = .ok (.iload_n 2, 1) := by decide +kernel
theorem dX7_shared_11 : decode cX7_shared 11 = .ok (.bipush 16, 2) := by decide +kernel
theorem dX7_shared_13 : decode cX7_shared 13 = .ok (.if_icmp .ge 111, 3) := by decide +kernel
theorem dX7_shared_16 : decode cX7_shared 16 = .ok (.iconst 0, 1) := by decide +kernel
theorem dX7_shared_17 : decode cX7_shared 17 = .ok (.istore_n 3, 1) := by decide +kernel
theorem dX7_shared_18 : decode cX7_shared 18 = .ok (.iconst 0, 1) := by decide +kernel
theorem dX7_shared_19 : decode cX7_shared 19 = .ok (.istore 4, 2) := by decide +kernel
theorem dX7_shared_21 : decode cX7_shared 21 = .ok (.iload 4, 2) := by decide +kernel
theorem dX7_shared_23 : decode cX7_shared 23 = .ok (.iconst 4, 1) := by decide +kernel
theorem dX7_shared_24 : decode cX7_shared 24 = .ok (.if_icmp .ge 31, 3) := by decide +kernel
theorem dX7_shared_27 : decode cX7_shared 27 = .ok (.iload_n 3, 1) := by decide +kernel
theorem dX7_shared_28 : decode cX7_shared 28 = .ok (.iload_n 2, 1) := by decide +kernel
theorem dX7_shared_29 : decode cX7_shared 29 = .ok (.iload 4, 2) := by decide +kernel
theorem dX7_shared_31 : decode cX7_shared 31 = .ok (.ishr, 1) := by decide +kernel
theorem dX7_shared_32 : decode cX7_shared 32 = .ok (.iconst 1, 1) := by decide +kernel
theorem dX7_shared_33 : decode cX7_shared 33 = .ok (.iand, 1) := by decide +kernel
theorem dX7_shared_34 : decode cX7_shared 34 = .ok (.ifCond .ne 12, 3) := by decide +kernel
theorem dX7_shared_37 : decode cX7_shared 37 = .ok (.aload_n 0, 1) := by decide +kernel
theorem dX7_shared_38 : decode cX7_shared 38 = .ok (.iload 4, 2) := by decide +kernel
theorem dX7_shared_40 : decode cX7_shared 40 = .ok (.invokevirtual 155, 3) := by decide +kernel
theorem dX7_shared_43 : decode cX7_shared 43 = .ok (.goto 4, 3) := by decide +kernel
theorem dX7_shared_46 : decode cX7_shared 46 = .ok (.iconst 0, 1) := by decide +kernel
theorem dX7_shared_47 : decode cX7_shared 47 = .ok (.iadd, 1) := by decide +kernel
theorem dX7_shared_48 : decode cX7_shared 48 = .ok (.istore_n 3, 1) := by decide +kernel
theorem dX7_shared_49 : decode cX7_shared 49 = .ok (.iinc 4 1, 3) := by decide +kernel
theorem dX7_shared_52 : decode cX7_shared 52 = .ok (.goto (-31), 3) := by decide +kernel
theorem dX7_shared_55 : decode cX7_shared 55 = .ok (.iconst 0, 1) := by decide +kernel
theorem dX7_shared_56 : decode cX7_shared 56 = .ok (.istore 4, 2) := by decide +kernel
theorem dX7_shared_58 : decode cX7_shared 58 = .ok (.iload 4, 2) := by decide +kernel
theorem dX7_shared_60 : decode cX7_shared 60 = .ok (.aload_n 0, 1) := by decide +kernel
theorem dX7_shared_61 : decode cX7_shared 61 = .ok (.getfield 122, 3) := by decide +kernel
theorem dX7_shared_64 : decode cX7_shared 64 = .ok (.if_icmp .ge 37, 3) := by decide +kernel
theorem dX7_shared_67 : decode cX7_shared 67 = .ok (.iload_n 3, 1) := by decide +kernel
theorem dX7_shared_68 : decode cX7_shared 68 = .ok (.iload_n 2, 1) := by decide +kernel
theorem dX7_shared_69 : decode cX7_shared 69 = .ok (.aload_n 0, 1) := by decide +kernel
theorem dX7_shared_70 : decode cX7_shared 70 = .ok (.getfield 19, 3) := by decide +kernel
theorem dX7_shared_73 : decode cX7_shared 73 = .ok (.iload 4, 2) := by decide +kernel
theorem dX7_shared_75 : decode cX7_shared 75 = .ok (.iaload, 1) := by decide +kernel
theorem dX7_shared_76 : decode cX7_shared 76 = .ok (.iconst (-1), 1) := by decide +kernel
theorem dX7_shared_77 : decode cX7_shared 77 = .ok (.ixor, 1) := by decide +kernel
theorem dX7_shared_78 : decode cX7_shared 78 = .ok (.iand, 1) := by decide +kernel
theorem dX7_shared_79 : decode cX7_shared 79 = .ok (.ifCond .eq 13, 3) := by decide +kernel
theorem dX7_shared_82 : decode cX7_shared 82 = .ok (.aload_n 0, 1) := by decide +kernel
theorem dX7_shared_83 : decode cX7_shared 83 = .ok (.getfield 16, 3) := by decide +kernel
theorem dX7_shared_86 : decode cX7_shared 86 = .ok (.iload 4, 2) := by decide +kernel
theorem dX7_shared_88 : decode cX7_shared 88 = .ok (.iaload, 1) := by decide +kernel
theorem dX7_shared_89 : decode cX7_shared 89 = .ok (.goto 4, 3) := by decide +kernel
theorem dX7_shared_92 : decode cX7_shared 92 = .ok (.iconst 0, 1) := by decide +kernel
theorem dX7_shared_93 : decode cX7_shared 93 = .ok (.iadd, 1) := by decide +kernel
theorem dX7_shared_94 : decode cX7_shared 94 = .ok (.istore_n 3, 1) := by decide +kernel
theorem dX7_shared_95 : decode cX7_shared 95 = .ok (.iinc 4 1, 3) := by decide +kernel
theorem dX7_shared_98 : decode cX7_shared 98 = .ok (.goto (-40), 3) := by decide +kernel
theorem dX7_shared_101 : decode cX7_shared 101 = .ok (.iload_n 1, 1) := by decide +kernel
theorem dX7_shared_102 : decode cX7_shared 102 = .ok (.bipush (-9), 2) := by decide +kernel
theorem dX7_shared_104 : decode cX7_shared 104 = .ok (.if_icmp .eq 8, 3) := by decide +kernel
theorem dX7_shared_107 : decode cX7_shared 107 = .ok (.iload_n 3, 1) := by decide +kernel
theorem dX7_shared_108 : decode cX7_shared 108 = .ok (.iload_n 1, 1) := by decide +kernel
theorem dX7_shared_109 : decode cX7_shared 109 = .ok (.if_icmp .ge 7, 3) := by decide +kernel
theorem dX7_shared_112 : decode cX7_shared 112 = .ok (.iload_n 3, 1) := by decide +kernel
theorem dX7_shared_113 : decode cX7_shared 113 = .ok (.goto 4, 3) := by decide +kernel
theorem dX7_shared_116 : decode cX7_shared 116 = .ok (.iload_n 1, 1) := by decide +kernel
theorem dX7_shared_117 : decode cX7_shared 117 = .ok (.istore_n 1, 1) := by decide +kernel
theorem dX7_shared_118 : decode cX7_shared 118 = .ok (.iinc 2 1, 3) := by decide +kernel
theorem dX7_shared_121 : decode cX7_shared 121 = .ok (.goto (-111), 3) := by decide +kernel
theorem dX7_shared_124 : decode cX7_shared 124 = .ok (.iload_n 1, 1) := by decide +kernel
theorem dX7_shared_125 : decode cX7_shared 125 = .ok (.ireturn, 1) := by decide +kernel
set_option maxRecDepth 20000 in
theorem ggX7_goesBy_X7_greatest : GoodIn wsX7_goesBy wsX7_greatest := goodIn_r _ [7, 8, 2, 14, 15, 16, 17, 18, 19, 20, 21, 22, 23, 24, 25, 26, 27, 28, 29, 30, 31, 32, 33, 34, 35, 36, 37] (by decide +kernel) (by decide +kernel)
set_option maxRecDepth 20000 in
theorem gX7_goesBy_X7_greatest : GoodIn wsX7_goesBy (wsV RX7 188 RX7 yX7_greatest wsX7_greatest) := goodIn_app (goodIn_of _ (by decide +kernel)) ggX7_goesBy_X7_greatest
set_option maxRecDepth 20000 in
theorem ggX7_goesBy_X7_weightThen : GoodIn wsX7_goesBy wsX7_weightThen := goodIn_r _ [12, 13, 14, 15, 16, 17, 18, 19, 20, 21, 22, 23, 24, 25, 26, 27, 28, 29, 30, 31, 32, 33, 34, 35, 36, 37] (by decide +kernel) (by decide +kernel)
set_option maxRecDepth 20000 in
theorem gX7_goesBy_X7_weightThen : GoodIn wsX7_goesBy (wsV RX7 164 RX7 yX7_weightThen wsX7_weightThen) := goodIn_app (goodIn_of _ (by decide +kernel)) ggX7_goesBy_X7_weightThen
theorem dX7_goesBy_0 : decode cX7_goesBy 0 = .ok (.iconst 0, 1) := by decide +kernel
theorem dX7_goesBy_1 : decode cX7_goesBy 1 = .ok (.istore_n 3, 1) := by decide +kernel
theorem dX7_goesBy_2 : decode cX7_goesBy 2 = .ok (.iload_n 3, 1) := by decide +kernel
theorem dX7_goesBy_3 : decode cX7_goesBy 3 = .ok (.iconst 4, 1) := by decide +kernel
theorem dX7_goesBy_4 : decode cX7_goesBy 4 = .ok (.if_icmp .ge 105, 3) := by decide +kernel
theorem dX7_goesBy_7 : decode cX7_goesBy 7 = .ok (.iconst 0, 1) := by decide +kernel
theorem dX7_goesBy_8 : decode cX7_goesBy 8 = .ok (.istore 4, 2) := by decide +kernel
theorem dX7_goesBy_10 : decode cX7_goesBy 10 = .ok (.iconst 0, 1) := by decide +kernel
theorem dX7_goesBy_11 : decode cX7_goesBy 11 = .ok (.istore 5, 2) := by decide +kernel
theorem dX7_goesBy_13 : decode cX7_goesBy 13 = .ok (.iload 5, 2) := by decide +kernel
theorem dX7_goesBy_15 : decode cX7_goesBy 15 = .ok (.aload_n 0, 1) := by decide +kernel
theorem dX7_goesBy_16 : decode cX7_goesBy 16 = .ok (.getfield 122, 3) := by decide +kernel
theorem dX7_goesBy_19 : decode cX7_goesBy 19 = .ok (.if_icmp .ge 34, 3) := by decide +kernel
theorem dX7_goesBy_22 : decode cX7_goesBy 22 = .ok (.iload 4, 2) := by decide +kernel
theorem dX7_goesBy_24 : decode cX7_goesBy 24 = .ok (.aload_n 0, 1) := by decide +kernel
theorem dX7_goesBy_25 : decode cX7_goesBy 25 = .ok (.iload_n 1, 1) := by decide +kernel
theorem dX7_goesBy_26 : decode cX7_goesBy 26 = .ok (.iconst 4, 1) := by decide +kernel
theorem dX7_goesBy_27 : decode cX7_goesBy 27 = .ok (.iload 5, 2) := by decide +kernel
theorem dX7_goesBy_29 : decode cX7_goesBy 29 = .ok (.imul, 1) := by decide +kernel
theorem dX7_goesBy_30 : decode cX7_goesBy 30 = .ok (.iadd, 1) := by decide +kernel
theorem dX7_goesBy_31 : decode cX7_goesBy 31 = .ok (.iconst 0, 1) := by decide +kernel
theorem dX7_goesBy_32 : decode cX7_goesBy 32 = .ok (.invokevirtual 188, 3) := by decide +kernel
theorem dX7_goesBy_35 : decode cX7_goesBy 35 = .ok (.iload_n 3, 1) := by decide +kernel
theorem dX7_goesBy_36 : decode cX7_goesBy 36 = .ok (.if_icmp .ne 7, 3) := by decide +kernel
theorem dX7_goesBy_39 : decode cX7_goesBy 39 = .ok (.iconst 1, 1) := by decide +kernel
theorem dX7_goesBy_40 : decode cX7_goesBy 40 = .ok (.goto 4, 3) := by decide +kernel
theorem dX7_goesBy_43 : decode cX7_goesBy 43 = .ok (.iconst 0, 1) := by decide +kernel
theorem dX7_goesBy_44 : decode cX7_goesBy 44 = .ok (.iadd, 1) := by decide +kernel
theorem dX7_goesBy_45 : decode cX7_goesBy 45 = .ok (.istore 4, 2) := by decide +kernel
theorem dX7_goesBy_47 : decode cX7_goesBy 47 = .ok (.iinc 5 1, 3) := by decide +kernel
theorem dX7_goesBy_50 : decode cX7_goesBy 50 = .ok (.goto (-37), 3) := by decide +kernel
theorem dX7_goesBy_53 : decode cX7_goesBy 53 = .ok (.iconst 0, 1) := by decide +kernel
theorem dX7_goesBy_54 : decode cX7_goesBy 54 = .ok (.istore 5, 2) := by decide +kernel
theorem dX7_goesBy_56 : decode cX7_goesBy 56 = .ok (.iload 5, 2) := by decide +kernel
theorem dX7_goesBy_58 : decode cX7_goesBy 58 = .ok (.aload_n 0, 1) := by decide +kernel
theorem dX7_goesBy_59 : decode cX7_goesBy 59 = .ok (.getfield 122, 3) := by decide +kernel
theorem dX7_goesBy_62 : decode cX7_goesBy 62 = .ok (.if_icmp .ge 41, 3) := by decide +kernel
theorem dX7_goesBy_65 : decode cX7_goesBy 65 = .ok (.aload_n 0, 1) := by decide +kernel
theorem dX7_goesBy_66 : decode cX7_goesBy 66 = .ok (.getfield 35, 3) := by decide +kernel
theorem dX7_goesBy_69 : decode cX7_goesBy 69 = .ok (.iload_n 2, 1) := by decide +kernel
theorem dX7_goesBy_70 : decode cX7_goesBy 70 = .ok (.iconst 4, 1) := by decide +kernel
theorem dX7_goesBy_71 : decode cX7_goesBy 71 = .ok (.iload 5, 2) := by decide +kernel
theorem dX7_goesBy_73 : decode cX7_goesBy 73 = .ok (.imul, 1) := by decide +kernel
theorem dX7_goesBy_74 : decode cX7_goesBy 74 = .ok (.iadd, 1) := by decide +kernel
theorem dX7_goesBy_75 : decode cX7_goesBy 75 = .ok (.iload_n 3, 1) := by decide +kernel
theorem dX7_goesBy_76 : decode cX7_goesBy 76 = .ok (.iadd, 1) := by decide +kernel
theorem dX7_goesBy_77 : decode cX7_goesBy 77 = .ok (.aload_n 0, 1) := by decide +kernel
theorem dX7_goesBy_78 : decode cX7_goesBy 78 = .ok (.aload_n 0, 1) := by decide +kernel
theorem dX7_goesBy_79 : decode cX7_goesBy 79 = .ok (.getfield 35, 3) := by decide +kernel
theorem dX7_goesBy_82 : decode cX7_goesBy 82 = .ok (.iload_n 1, 1) := by decide +kernel
theorem dX7_goesBy_83 : decode cX7_goesBy 83 = .ok (.iconst 4, 1) := by decide +kernel
theorem dX7_goesBy_84 : decode cX7_goesBy 84 = .ok (.iload 5, 2) := by decide +kernel
theorem dX7_goesBy_86 : decode cX7_goesBy 86 = .ok (.imul, 1) := by decide +kernel
theorem dX7_goesBy_87 : decode cX7_goesBy 87 = .ok (.iadd, 1) := by decide +kernel
theorem dX7_goesBy_88 : decode cX7_goesBy 88 = .ok (.iload_n 3, 1) := by decide +kernel
theorem dX7_goesBy_89 : decode cX7_goesBy 89 = .ok (.iadd, 1) := by decide +kernel
theorem dX7_goesBy_90 : decode cX7_goesBy 90 = .ok (.iaload, 1) := by decide +kernel
theorem dX7_goesBy_91 : decode cX7_goesBy 91 = .ok (.iload 4, 2) := by decide +kernel
theorem dX7_goesBy_93 : decode cX7_goesBy 93 = .ok (.invokevirtual 164, 3) := by decide +kernel
theorem dX7_goesBy_96 : decode cX7_goesBy 96 = .ok (.iastore, 1) := by decide +kernel
theorem dX7_goesBy_97 : decode cX7_goesBy 97 = .ok (.iinc 5 1, 3) := by decide +kernel
theorem dX7_goesBy_100 : decode cX7_goesBy 100 = .ok (.goto (-44), 3) := by decide +kernel
theorem dX7_goesBy_103 : decode cX7_goesBy 103 = .ok (.iinc 3 1, 3) := by decide +kernel
theorem dX7_goesBy_106 : decode cX7_goesBy 106 = .ok (.goto (-104), 3) := by decide +kernel
theorem dX7_goesBy_109 : decode cX7_goesBy 109 = .ok (.return_, 1) := by decide +kernel
theorem dX7_greatest_0 : decode cX7_greatest 0 = .ok (.bipush (-9), 2) := by decide +kernel
theorem dX7_greatest_2 : decode cX7_greatest 2 = .ok (.istore_n 3, 1) := by decide +kernel
theorem dX7_greatest_3 : decode cX7_greatest 3 = .ok (.iconst 0, 1) := by decide +kernel
theorem dX7_greatest_4 : decode cX7_greatest 4 = .ok (.istore 4, 2) := by decide +kernel
theorem dX7_greatest_6 : decode cX7_greatest 6 = .ok (.iconst 0, 1) := by decide +kernel
theorem dX7_greatest_7 : decode cX7_greatest 7 = .ok (.istore 5, 2) := by decide +kernel
theorem dX7_greatest_9 : decode cX7_greatest 9 = .ok (.iload 5, 2) := by decide +kernel
theorem dX7_greatest_11 : decode cX7_greatest 11 = .ok (.iconst 4, 1) := by decide +kernel
theorem dX7_greatest_12 : decode cX7_greatest 12 = .ok (.if_icmp .ge 50, 3) := by decide +kernel
theorem dX7_greatest_15 : decode cX7_greatest 15 = .ok (.iload_n 2, 1) := by decide +kernel
theorem dX7_greatest_16 : decode cX7_greatest 16 = .ok (.ifCond .eq 15, 3) := by decide +kernel
theorem dX7_greatest_19 : decode cX7_greatest 19 = .ok (.aload_n 0, 1) := by decide +kernel
theorem dX7_greatest_20 : decode cX7_greatest 20 = .ok (.getfield 25, 3) := by decide +kernel
theorem dX7_greatest_23 : decode cX7_greatest 23 = .ok (.iload_n 1, 1) := by decide +kernel
theorem dX7_greatest_24 : decode cX7_greatest 24 = .ok (.iload 5, 2) := by decide +kernel
theorem dX7_greatest_26 : decode cX7_greatest 26 = .ok (.iadd, 1) := by decide +kernel
theorem dX7_greatest_27 : decode cX7_greatest 27 = .ok (.iaload, 1) := by decide +kernel
theorem dX7_greatest_28 : decode cX7_greatest 28 = .ok (.goto 12, 3) := by decide +kernel
theorem dX7_greatest_31 : decode cX7_greatest 31 = .ok (.aload_n 0, 1) := by decide +kernel
theorem dX7_greatest_32 : decode cX7_greatest 32 = .ok (.getfield 35, 3) := by decide +kernel
theorem dX7_greatest_35 : decode cX7_greatest 35 = .ok (.iload_n 1, 1) := by decide +kernel
theorem dX7_greatest_36 : decode cX7_greatest 36 = .ok (.iload 5, 2) := by decide +kernel
theorem dX7_greatest_38 : decode cX7_greatest 38 = .ok (.iadd, 1) := by decide +kernel
theorem dX7_greatest_39 : decode cX7_greatest 39 = .ok (.iaload, 1) := by decide +kernel
theorem dX7_greatest_40 : decode cX7_greatest 40 = .ok (.istore 6, 2) := by decide +kernel
theorem dX7_greatest_42 : decode cX7_greatest 42 = .ok (.iload 6, 2) := by decide +kernel
theorem dX7_greatest_44 : decode cX7_greatest 44 = .ok (.iload 4, 2) := by decide +kernel
theorem dX7_greatest_46 : decode cX7_greatest 46 = .ok (.if_icmp .le 10, 3) := by decide +kernel
theorem dX7_greatest_49 : decode cX7_greatest 49 = .ok (.iload 6, 2) := by decide +kernel
theorem dX7_greatest_51 : decode cX7_greatest 51 = .ok (.istore 4, 2) := by decide +kernel
theorem dX7_greatest_53 : decode cX7_greatest 53 = .ok (.iload 5, 2) := by decide +kernel
theorem dX7_greatest_55 : decode cX7_greatest 55 = .ok (.istore_n 3, 1) := by decide +kernel
theorem dX7_greatest_56 : decode cX7_greatest 56 = .ok (.iinc 5 1, 3) := by decide +kernel
theorem dX7_greatest_59 : decode cX7_greatest 59 = .ok (.goto (-50), 3) := by decide +kernel
theorem dX7_greatest_62 : decode cX7_greatest 62 = .ok (.iload_n 3, 1) := by decide +kernel
theorem dX7_greatest_63 : decode cX7_greatest 63 = .ok (.ireturn, 1) := by decide +kernel
theorem dX7_areAlike_0 : decode cX7_areAlike 0 = .ok (.iconst 1, 1) := by decide +kernel
theorem dX7_areAlike_1 : decode cX7_areAlike 1 = .ok (.istore_n 3, 1) := by decide +kernel
