theorem dX8_let_30 : decode cX8_let 30 = .ok (.istore_n 3, 1) := by decide +kernel
theorem dX8_let_31 : decode cX8_let 31 = .ok (.iload_n 3, 1) := by decide +kernel
theorem dX8_let_32 : decode cX8_let 32 = .ok (.iload_n 1, 1) := by decide +kernel
theorem dX8_let_33 : decode cX8_let 33 = .ok (.iload_n 2, 1) := by decide +kernel
theorem dX8_let_34 : decode cX8_let 34 = .ok (.iadd, 1) := by decide +kernel
theorem dX8_let_35 : decode cX8_let 35 = .ok (.if_icmp .ge 35, 3) := by decide +kernel
theorem dX8_let_38 : decode cX8_let 38 = .ok (.aload_n 0, 1) := by decide +kernel
theorem dX8_let_39 : decode cX8_let 39 = .ok (.getfield 23, 3) := by decide +kernel
theorem dX8_let_42 : decode cX8_let 42 = .ok (.iload_n 3, 1) := by decide +kernel
theorem dX8_let_43 : decode cX8_let 43 = .ok (.iaload, 1) := by decide +kernel
theorem dX8_let_44 : decode cX8_let 44 = .ok (.ifCond .lt 20, 3) := by decide +kernel
theorem dX8_let_47 : decode cX8_let 47 = .ok (.aload_n 0, 1) := by decide +kernel
theorem dX8_let_48 : decode cX8_let 48 = .ok (.getfield 32, 3) := by decide +kernel
theorem dX8_let_51 : decode cX8_let 51 = .ok (.aload_n 0, 1) := by decide +kernel
theorem dX8_let_52 : decode cX8_let 52 = .ok (.getfield 23, 3) := by decide +kernel
theorem dX8_let_55 : decode cX8_let 55 = .ok (.iload_n 3, 1) := by decide +kernel
theorem dX8_let_56 : decode cX8_let 56 = .ok (.iaload, 1) := by decide +kernel
theorem dX8_let_57 : decode cX8_let 57 = .ok (.baload, 1) := by decide +kernel
theorem dX8_let_58 : decode cX8_let 58 = .ok (.ifCond .eq 6, 3) := by decide +kernel
theorem dX8_let_61 : decode cX8_let 61 = .ok (.ldc 187, 2) := by decide +kernel
theorem dX8_let_63 : decode cX8_let 63 = .ok (.ireturn, 1) := by decide +kernel
theorem dX8_let_64 : decode cX8_let 64 = .ok (.iinc 3 1, 3) := by decide +kernel
theorem dX8_let_67 : decode cX8_let 67 = .ok (.goto (-36), 3) := by decide +kernel
theorem dX8_let_70 : decode cX8_let 70 = .ok (.aload_n 0, 1) := by decide +kernel
theorem dX8_let_71 : decode cX8_let 71 = .ok (.getfield 83, 3) := by decide +kernel
theorem dX8_let_74 : decode cX8_let 74 = .ok (.bipush 12, 2) := by decide +kernel
theorem dX8_let_76 : decode cX8_let 76 = .ok (.if_icmp .ne 6, 3) := by decide +kernel
theorem dX8_let_79 : decode cX8_let 79 = .ok (.ldc 188, 2) := by decide +kernel
theorem dX8_let_81 : decode cX8_let 81 = .ok (.ireturn, 1) := by decide +kernel
theorem dX8_let_82 : decode cX8_let 82 = .ok (.iload_n 1, 1) := by decide +kernel
theorem dX8_let_83 : decode cX8_let 83 = .ok (.istore_n 3, 1) := by decide +kernel
theorem dX8_let_84 : decode cX8_let 84 = .ok (.iload_n 3, 1) := by decide +kernel
theorem dX8_let_85 : decode cX8_let 85 = .ok (.iload_n 1, 1) := by decide +kernel
theorem dX8_let_86 : decode cX8_let 86 = .ok (.iload_n 2, 1) := by decide +kernel
theorem dX8_let_87 : decode cX8_let 87 = .ok (.iadd, 1) := by decide +kernel
theorem dX8_let_88 : decode cX8_let 88 = .ok (.if_icmp .ge 69, 3) := by decide +kernel
theorem dX8_let_91 : decode cX8_let 91 = .ok (.aload_n 0, 1) := by decide +kernel
theorem dX8_let_92 : decode cX8_let 92 = .ok (.getfield 7, 3) := by decide +kernel
theorem dX8_let_95 : decode cX8_let 95 = .ok (.bipush 8, 2) := by decide +kernel
theorem dX8_let_97 : decode cX8_let 97 = .ok (.iload_n 3, 1) := by decide +kernel
theorem dX8_let_98 : decode cX8_let 98 = .ok (.iadd, 1) := by decide +kernel
theorem dX8_let_99 : decode cX8_let 99 = .ok (.aload_n 0, 1) := by decide +kernel
theorem dX8_let_100 : decode cX8_let 100 = .ok (.sipush 256, 3) := by decide +kernel
theorem dX8_let_103 : decode cX8_let 103 = .ok (.invokevirtual 189, 3) := by decide +kernel
theorem dX8_let_106 : decode cX8_let 106 = .ok (.iastore, 1) := by decide +kernel
theorem dX8_let_107 : decode cX8_let 107 = .ok (.aload_n 0, 1) := by decide +kernel
theorem dX8_let_108 : decode cX8_let 108 = .ok (.getfield 13, 3) := by decide +kernel
theorem dX8_let_111 : decode cX8_let 111 = .ok (.bipush 8, 2) := by decide +kernel
theorem dX8_let_113 : decode cX8_let 113 = .ok (.iload_n 3, 1) := by decide +kernel
theorem dX8_let_114 : decode cX8_let 114 = .ok (.iadd, 1) := by decide +kernel
theorem dX8_let_115 : decode cX8_let 115 = .ok (.sipush 255, 3) := by decide +kernel
theorem dX8_let_118 : decode cX8_let 118 = .ok (.iastore, 1) := by decide +kernel
theorem dX8_let_119 : decode cX8_let 119 = .ok (.aload_n 0, 1) := by decide +kernel
theorem dX8_let_120 : decode cX8_let 120 = .ok (.getfield 16, 3) := by decide +kernel
theorem dX8_let_123 : decode cX8_let 123 = .ok (.bipush 8, 2) := by decide +kernel
theorem dX8_let_125 : decode cX8_let 125 = .ok (.iload_n 3, 1) := by decide +kernel
theorem dX8_let_126 : decode cX8_let 126 = .ok (.iadd, 1) := by decide +kernel
theorem dX8_let_127 : decode cX8_let 127 = .ok (.iconst 1, 1) := by decide +kernel
theorem dX8_let_128 : decode cX8_let 128 = .ok (.aload_n 0, 1) := by decide +kernel
theorem dX8_let_129 : decode cX8_let 129 = .ok (.getfield 83, 3) := by decide +kernel
theorem dX8_let_132 : decode cX8_let 132 = .ok (.ishl, 1) := by decide +kernel
theorem dX8_let_133 : decode cX8_let 133 = .ok (.iastore, 1) := by decide +kernel
theorem dX8_let_134 : decode cX8_let 134 = .ok (.aload_n 0, 1) := by decide +kernel
theorem dX8_let_135 : decode cX8_let 135 = .ok (.getfield 19, 3) := by decide +kernel
theorem dX8_let_138 : decode cX8_let 138 = .ok (.iload_n 3, 1) := by decide +kernel
theorem dX8_let_139 : decode cX8_let 139 = .ok (.iconst 0, 1) := by decide +kernel
theorem dX8_let_140 : decode cX8_let 140 = .ok (.bastore, 1) := by decide +kernel
theorem dX8_let_141 : decode cX8_let 141 = .ok (.aload_n 0, 1) := by decide +kernel
theorem dX8_let_142 : decode cX8_let 142 = .ok (.getfield 23, 3) := by decide +kernel
theorem dX8_let_145 : decode cX8_let 145 = .ok (.iload_n 3, 1) := by decide +kernel
theorem dX8_let_146 : decode cX8_let 146 = .ok (.aload_n 0, 1) := by decide +kernel
theorem dX8_let_147 : decode cX8_let 147 = .ok (.getfield 83, 3) := by decide +kernel
theorem dX8_let_150 : decode cX8_let 150 = .ok (.iastore, 1) := by decide +kernel
theorem dX8_let_151 : decode cX8_let 151 = .ok (.iinc 3 1, 3) := by decide +kernel
theorem dX8_let_154 : decode cX8_let 154 = .ok (.goto (-70), 3) := by decide +kernel
theorem dX8_let_157 : decode cX8_let 157 = .ok (.aload_n 0, 1) := by decide +kernel
theorem dX8_let_158 : decode cX8_let 158 = .ok (.getfield 26, 3) := by decide +kernel
theorem dX8_let_161 : decode cX8_let 161 = .ok (.aload_n 0, 1) := by decide +kernel
theorem dX8_let_162 : decode cX8_let 162 = .ok (.getfield 83, 3) := by decide +kernel
theorem dX8_let_165 : decode cX8_let 165 = .ok (.iload_n 1, 1) := by decide +kernel
theorem dX8_let_166 : decode cX8_let 166 = .ok (.iastore, 1) := by decide +kernel
theorem dX8_let_167 : decode cX8_let 167 = .ok (.aload_n 0, 1) := by decide +kernel
theorem dX8_let_168 : decode cX8_let 168 = .ok (.getfield 29, 3) := by decide +kernel
theorem dX8_let_171 : decode cX8_let 171 = .ok (.aload_n 0, 1) := by decide +kernel
theorem dX8_let_172 : decode cX8_let 172 = .ok (.getfield 83, 3) := by decide +kernel
theorem dX8_let_175 : decode cX8_let 175 = .ok (.iload_n 2, 1) := by decide +kernel
theorem dX8_let_176 : decode cX8_let 176 = .ok (.iastore, 1) := by decide +kernel
theorem dX8_let_177 : decode cX8_let 177 = .ok (.aload_n 0, 1) := by decide +kernel
theorem dX8_let_178 : decode cX8_let 178 = .ok (.getfield 32, 3) := by decide +kernel
theorem dX8_let_181 : decode cX8_let 181 = .ok (.aload_n 0, 1) := by decide +kernel
theorem dX8_let_182 : decode cX8_let 182 = .ok (.getfield 83, 3) := by decide +kernel
theorem dX8_let_185 : decode cX8_let 185 = .ok (.iconst 1, 1) := by decide +kernel
theorem dX8_let_186 : decode cX8_let 186 = .ok (.bastore, 1) := by decide +kernel
theorem dX8_let_187 : decode cX8_let 187 = .ok (.aload_n 0, 1) := by decide +kernel
theorem dX8_let_188 : decode cX8_let 188 = .ok (.dup, 1) := by decide +kernel
theorem dX8_let_189 : decode cX8_let 189 = .ok (.getfield 83, 3) := by decide +kernel
theorem dX8_let_192 : decode cX8_let 192 = .ok (.iconst 1, 1) := by decide +kernel
theorem dX8_let_193 : decode cX8_let 193 = .ok (.iadd, 1) := by decide +kernel
theorem dX8_let_194 : decode cX8_let 194 = .ok (.putfield 83, 3) := by decide +kernel
theorem dX8_let_197 : decode cX8_let 197 = .ok (.aload_n 0, 1) := by decide +kernel
theorem dX8_let_198 : decode cX8_let 198 = .ok (.bipush 6, 2) := by decide +kernel
theorem dX8_let_200 : decode cX8_let 200 = .ok (.aload_n 0, 1) := by decide +kernel
theorem dX8_let_201 : decode cX8_let 201 = .ok (.getfield 83, 3) := by decide +kernel
theorem dX8_let_204 : decode cX8_let 204 = .ok (.iconst 1, 1) := by decide +kernel
theorem dX8_let_205 : decode cX8_let 205 = .ok (.isub, 1) := by decide +kernel
theorem dX8_let_206 : decode cX8_let 206 = .ok (.invokevirtual 132, 3) := by decide +kernel
theorem dX8_let_209 : decode cX8_let 209 = .ok (.ireturn, 1) := by decide +kernel
set_option maxRecDepth 20000 in
theorem ggX8_giveBack_X8_isGround : GoodIn wsX8_giveBack wsX8_isGround := goodIn_r _ [11, 12, 13, 14, 10, 15, 34, 35, 36, 37, 38, 39, 40, 41, 42, 43, 44, 45, 46, 47, 48, 49, 50, 51, 52, 53, 54, 55, 56, 57, 58, 59, 60, 61] (by decide +kernel) (by decide +kernel)
set_option maxRecDepth 20000 in
theorem gX8_giveBack_X8_isGround : GoodIn wsX8_giveBack (wsV RX8 136 RX8 yX8_isGround wsX8_isGround) := goodIn_app (goodIn_of _ (by decide +kernel)) ggX8_giveBack_X8_isGround
set_option maxRecDepth 20000 in
theorem ggX8_giveBack_X8_letOnes : GoodIn wsX8_giveBack wsX8_letOnes := goodIn_r _ [19, 12, 2, 34, 35, 36, 37, 38, 39, 40, 41, 42, 43, 44, 45, 46, 47, 48, 49, 50, 51, 52, 53, 54, 55, 56, 57, 58, 59, 60, 61] (by decide +kernel) (by decide +kernel)
set_option maxRecDepth 20000 in
theorem gX8_giveBack_X8_letOnes : GoodIn wsX8_giveBack (wsV RX8 192 RX8 yX8_letOnes wsX8_letOnes) := goodIn_app (goodIn_of _ (by decide +kernel)) ggX8_giveBack_X8_letOnes
set_option maxRecDepth 20000 in
theorem ggX8_giveBack_X8_bits : GoodIn wsX8_giveBack wsX8_bits := goodIn_r _ [22] (by decide +kernel) (by decide +kernel)
set_option maxRecDepth 20000 in
theorem gX8_giveBack_X8_bits : GoodIn wsX8_giveBack (va_wsS RX8 172 yX8_bits wsX8_bits) := goodIn_app (goodIn_of _ (by decide +kernel)) ggX8_giveBack_X8_bits
set_option maxRecDepth 20000 in
theorem ggX8_giveBack_X8_tick : GoodIn wsX8_giveBack wsX8_tick := goodIn_r _ [26, 27, 28, 29, 30, 31, 32, 33, 34, 35, 36, 37, 38, 39, 40, 41, 42, 43, 44, 45, 46, 47, 48, 49, 50, 51, 52, 53, 54, 55, 56, 57, 58, 59, 60, 61] (by decide +kernel) (by decide +kernel)
set_option maxRecDepth 20000 in
theorem gX8_giveBack_X8_tick : GoodIn wsX8_giveBack (wsV RX8 132 RX8 yX8_tick wsX8_tick) := goodIn_app (goodIn_of _ (by decide +kernel)) ggX8_giveBack_X8_tick
theorem dX8_giveBack_0 : decode cX8_giveBack 0 = .ok (.aload_n 0, 1) := by decide +kernel
theorem dX8_giveBack_1 : decode cX8_giveBack 1 = .ok (.iload_n 1, 1) := by decide +kernel
theorem dX8_giveBack_2 : decode cX8_giveBack 2 = .ok (.invokevirtual 136, 3) := by decide +kernel
theorem dX8_giveBack_5 : decode cX8_giveBack 5 = .ok (.ifCond .ne 6, 3) := by decide +kernel
theorem dX8_giveBack_8 : decode cX8_giveBack 8 = .ok (.ldc 123, 2) := by decide +kernel
theorem dX8_giveBack_10 : decode cX8_giveBack 10 = .ok (.ireturn, 1) := by decide +kernel
theorem dX8_giveBack_11 : decode cX8_giveBack 11 = .ok (.aload_n 0, 1) := by decide +kernel
theorem dX8_giveBack_12 : decode cX8_giveBack 12 = .ok (.getfield 32, 3) := by decide +kernel
theorem dX8_giveBack_15 : decode cX8_giveBack 15 = .ok (.iload_n 1, 1) := by decide +kernel
theorem dX8_giveBack_16 : decode cX8_giveBack 16 = .ok (.baload, 1) := by decide +kernel
theorem dX8_giveBack_17 : decode cX8_giveBack 17 = .ok (.ifCond .ne 6, 3) := by decide +kernel
theorem dX8_giveBack_20 : decode cX8_giveBack 20 = .ok (.ldc 187, 2) := by decide +kernel
theorem dX8_giveBack_22 : decode cX8_giveBack 22 = .ok (.ireturn, 1) := by decide +kernel
theorem dX8_giveBack_23 : decode cX8_giveBack 23 = .ok (.aload_n 0, 1) := by decide +kernel
theorem dX8_giveBack_24 : decode cX8_giveBack 24 = .ok (.getfield 32, 3) := by decide +kernel
theorem dX8_giveBack_27 : decode cX8_giveBack 27 = .ok (.iload_n 1, 1) := by decide +kernel
theorem dX8_giveBack_28 : decode cX8_giveBack 28 = .ok (.iconst 0, 1) := by decide +kernel
theorem dX8_giveBack_29 : decode cX8_giveBack 29 = .ok (.bastore, 1) := by decide +kernel
theorem dX8_giveBack_30 : decode cX8_giveBack 30 = .ok (.aload_n 0, 1) := by decide +kernel
theorem dX8_giveBack_31 : decode cX8_giveBack 31 = .ok (.getfield 26, 3) := by decide +kernel
theorem dX8_giveBack_34 : decode cX8_giveBack 34 = .ok (.iload_n 1, 1) := by decide +kernel
theorem dX8_giveBack_35 : decode cX8_giveBack 35 = .ok (.iaload, 1) := by decide +kernel
theorem dX8_giveBack_36 : decode cX8_giveBack 36 = .ok (.istore_n 2, 1) := by decide +kernel
theorem dX8_giveBack_37 : decode cX8_giveBack 37 = .ok (.iload_n 2, 1) := by decide +kernel
theorem dX8_giveBack_38 : decode cX8_giveBack 38 = .ok (.aload_n 0, 1) := by decide +kernel
theorem dX8_giveBack_39 : decode cX8_giveBack 39 = .ok (.getfield 26, 3) := by decide +kernel
theorem dX8_giveBack_42 : decode cX8_giveBack 42 = .ok (.iload_n 1, 1) := by decide +kernel
theorem dX8_giveBack_43 : decode cX8_giveBack 43 = .ok (.iaload, 1) := by decide +kernel
theorem dX8_giveBack_44 : decode cX8_giveBack 44 = .ok (.aload_n 0, 1) := by decide +kernel
theorem dX8_giveBack_45 : decode cX8_giveBack 45 = .ok (.getfield 29, 3) := by decide +kernel
theorem dX8_giveBack_48 : decode cX8_giveBack 48 = .ok (.iload_n 1, 1) := by decide +kernel
theorem dX8_giveBack_49 : decode cX8_giveBack 49 = .ok (.iaload, 1) := by decide +kernel
theorem dX8_giveBack_50 : decode cX8_giveBack 50 = .ok (.iadd, 1) := by decide +kernel
theorem dX8_giveBack_51 : decode cX8_giveBack 51 = .ok (.if_icmp .ge 16, 3) := by decide +kernel
theorem dX8_giveBack_54 : decode cX8_giveBack 54 = .ok (.aload_n 0, 1) := by decide +kernel
theorem dX8_giveBack_55 : decode cX8_giveBack 55 = .ok (.getfield 19, 3) := by decide +kernel
theorem dX8_giveBack_58 : decode cX8_giveBack 58 = .ok (.iload_n 2, 1) := by decide +kernel
theorem dX8_giveBack_59 : decode cX8_giveBack 59 = .ok (.iconst 1, 1) := by decide +kernel
theorem dX8_giveBack_60 : decode cX8_giveBack 60 = .ok (.bastore, 1) := by decide +kernel
theorem dX8_giveBack_61 : decode cX8_giveBack 61 = .ok (.iinc 2 1, 3) := by decide +kernel
theorem dX8_giveBack_64 : decode cX8_giveBack 64 = .ok (.goto (-27), 3) := by decide +kernel
theorem dX8_giveBack_67 : decode cX8_giveBack 67 = .ok (.aload_n 0, 1) := by decide +kernel
theorem dX8_giveBack_68 : decode cX8_giveBack 68 = .ok (.bipush 7, 2) := by decide +kernel
theorem dX8_giveBack_70 : decode cX8_giveBack 70 = .ok (.aload_n 0, 1) := by decide +kernel
theorem dX8_giveBack_71 : decode cX8_giveBack 71 = .ok (.invokevirtual 192, 3) := by decide +kernel
theorem dX8_giveBack_74 : decode cX8_giveBack 74 = .ok (.invokestatic 172, 3) := by decide +kernel
theorem dX8_giveBack_77 : decode cX8_giveBack 77 = .ok (.invokevirtual 132, 3) := by decide +kernel
theorem dX8_giveBack_80 : decode cX8_giveBack 80 = .ok (.ireturn, 1) := by decide +kernel
set_option maxRecDepth 20000 in
theorem ggX8_doByLots_X8_lotBy : GoodIn wsX8_doByLots wsX8_lotBy := goodIn_r _ [5, 6, 7, 8, 106, 107, 108, 109, 110, 111, 112, 113, 114, 115, 116, 117, 118, 119, 120, 121, 122, 123, 124, 125, 126, 127, 128, 129, 130, 131, 132, 133] (by decide +kernel) (by decide +kernel)
set_option maxRecDepth 20000 in
theorem gX8_doByLots_X8_lotBy : GoodIn wsX8_doByLots (wsV RX8 189 RX8 yX8_lotBy wsX8_lotBy) := goodIn_app (goodIn_of _ (by decide +kernel)) ggX8_doByLots_X8_lotBy
set_option maxRecDepth 20000 in
theorem ggX8_doByLots_X8_ruleNow : GoodIn wsX8_doByLots wsX8_ruleNow := goodIn_r _ [12, 13, 14, 15, 16, 17, 18, 4, 19, 20, 21, 22, 23, 24, 25, 26, 27, 28, 29, 30, 31, 32, 33, 34, 35, 36, 37, 38, 39, 40, 41, 106, 107, 108, 109, 110, 111, 112, 113, 114, 115, 116, 117, 118, 119, 120, 121, 122, 123, 124, 125, 126, 127, 128, 129, 130, 131, 132, 133] (by decide +kernel) (by decide +kernel)
set_option maxRecDepth 20000 in
theorem gX8_doByLots_X8_ruleNow : GoodIn wsX8_doByLots (wsV RX8 177 RX8 yX8_ruleNow wsX8_ruleNow) := goodIn_app (goodIn_of _ (by decide +kernel)) ggX8_doByLots_X8_ruleNow
set_option maxRecDepth 20000 in
theorem ggX8_doByLots_X8_tick : GoodIn wsX8_doByLots wsX8_tick := goodIn_r _ [45, 46, 47, 48, 49, 50, 51, 52, 106, 107, 108, 109, 110, 111, 112, 113, 114, 115, 116, 117, 118, 119, 120, 121, 122, 123, 124, 125, 126, 127, 128, 129, 130, 131, 132, 133] (by decide +kernel) (by decide +kernel)
set_option maxRecDepth 20000 in
theorem gX8_doByLots_X8_tick : GoodIn wsX8_doByLots (wsV RX8 132 RX8 yX8_tick wsX8_tick) := goodIn_app (goodIn_of _ (by decide +kernel)) ggX8_doByLots_X8_tick
set_option maxRecDepth 20000 in
theorem ggX8_doByLots_X8_load : GoodIn wsX8_doByLots wsX8_load := goodIn_r _ [56, 57, 58, 59, 4, 60, 61, 62, 63, 64, 65, 66, 67, 51, 68, 69, 70, 71, 13, 14, 16, 72, 73, 74, 75, 76, 77, 78, 79, 80, 81, 82, 83, 84, 49, 85, 29, 30, 31, 32, 33, 34, 35, 36, 37, 38, 39, 40, 41, 42, 43, 44, 45, 46, 47, 48, 50, 52, 106, 107, 108, 109, 110, 111, 112, 113, 114, 115, 116, 117, 118, 119, 120, 121, 122, 123, 124, 125, 126, 127, 128, 129, 130, 131, 132, 133] (by decide +kernel) (by decide +kernel)
set_option maxRecDepth 20000 in
theorem gX8_doByLots_X8_load : GoodIn wsX8_doByLots (wsV RX8 195 RX8 yX8_load wsX8_load) := goodIn_app (goodIn_of _ (by decide +kernel)) ggX8_doByLots_X8_load
set_option maxRecDepth 20000 in
theorem ggX8_doByLots_X8_store : GoodIn wsX8_doByLots wsX8_store := goodIn_r _ [89, 57, 58, 59, 4, 60, 61, 62, 63, 64, 65, 66, 67, 51, 90, 91, 92, 93, 76, 13, 14, 16, 29, 30, 31, 32, 33, 34, 35, 36, 37, 38, 39, 40, 41, 42, 43, 44, 45, 46, 47, 48, 49, 50, 52, 106, 107, 108, 109, 110, 111, 112, 113, 114, 115, 116, 117, 118, 119, 120, 121, 122, 123, 124, 125, 126, 127, 128, 129, 130, 131, 132, 133] (by decide +kernel) (by decide +kernel)
set_option maxRecDepth 20000 in
theorem gX8_doByLots_X8_store : GoodIn wsX8_doByLots (wsV RX8 198 RX8 yX8_store wsX8_store) := goodIn_app (goodIn_of _ (by decide +kernel)) ggX8_doByLots_X8_store
set_option maxRecDepth 20000 in
theorem ggX8_doByLots_X8_decide : GoodIn wsX8_doByLots wsX8_decide := goodIn_r _ [97, 57, 58, 59, 4, 60, 61, 62, 63, 64, 98, 99, 100, 101, 16, 13, 102, 103, 104, 105, 14, 78, 79, 80, 81, 82, 83, 84, 49, 85, 42, 43, 44, 45, 46, 47, 48, 50, 51, 52, 106, 107, 108, 109, 110, 111, 112, 113, 114, 115, 116, 117, 118, 119, 120, 121, 122, 123, 124, 125, 126, 127, 128, 129, 130, 131, 132, 133] (by decide +kernel) (by decide +kernel)
set_option maxRecDepth 20000 in
theorem gX8_doByLots_X8_decide : GoodIn wsX8_doByLots (wsV RX8 201 RX8 yX8_decide wsX8_decide) := goodIn_app (goodIn_of _ (by decide +kernel)) ggX8_doByLots_X8_decide
theorem dX8_doByLots_0 : decode cX8_doByLots 0 = .ok (.aload_n 0, 1) := by decide +kernel
theorem dX8_doByLots_1 : decode cX8_doByLots 1 = .ok (.iconst 4, 1) := by decide +kernel
theorem dX8_doByLots_2 : decode cX8_doByLots 2 = .ok (.invokevirtual 189, 3) := by decide +kernel
theorem dX8_doByLots_5 : decode cX8_doByLots 5 = .ok (.istore_n 1, 1) := by decide +kernel
theorem dX8_doByLots_6 : decode cX8_doByLots 6 = .ok (.iload_n 1, 1) := by decide +kernel
theorem dX8_doByLots_7 : decode cX8_doByLots 7 = .ok (.ifCond .ne 54, 3) := by decide +kernel
theorem dX8_doByLots_10 : decode cX8_doByLots 10 = .ok (.aload_n 0, 1) := by decide +kernel
theorem dX8_doByLots_11 : decode cX8_doByLots 11 = .ok (.bipush 7, 2) := by decide +kernel
theorem dX8_doByLots_13 : decode cX8_doByLots 13 = .ok (.invokevirtual 189, 3) := by decide +kernel
theorem dX8_doByLots_16 : decode cX8_doByLots 16 = .ok (.istore_n 2, 1) := by decide +kernel
theorem dX8_doByLots_17 : decode cX8_doByLots 17 = .ok (.aload_n 0, 1) := by decide +kernel
theorem dX8_doByLots_18 : decode cX8_doByLots 18 = .ok (.bipush 8, 2) := by decide +kernel
theorem dX8_doByLots_20 : decode cX8_doByLots 20 = .ok (.invokevirtual 189, 3) := by decide +kernel
theorem dX8_doByLots_23 : decode cX8_doByLots 23 = .ok (.istore_n 3, 1) := by decide +kernel
theorem dX8_doByLots_24 : decode cX8_doByLots 24 = .ok (.aload_n 0, 1) := by decide +kernel
theorem dX8_doByLots_25 : decode cX8_doByLots 25 = .ok (.bipush 8, 2) := by decide +kernel
theorem dX8_doByLots_27 : decode cX8_doByLots 27 = .ok (.invokevirtual 189, 3) := by decide +kernel
theorem dX8_doByLots_30 : decode cX8_doByLots 30 = .ok (.istore 4, 2) := by decide +kernel
theorem dX8_doByLots_32 : decode cX8_doByLots 32 = .ok (.aload_n 0, 1) := by decide +kernel
theorem dX8_doByLots_33 : decode cX8_doByLots 33 = .ok (.bipush 8, 2) := by decide +kernel
theorem dX8_doByLots_35 : decode cX8_doByLots 35 = .ok (.invokevirtual 189, 3) := by decide +kernel
theorem dX8_doByLots_38 : decode cX8_doByLots 38 = .ok (.istore 5, 2) := by decide +kernel
theorem dX8_doByLots_40 : decode cX8_doByLots 40 = .ok (.aload_n 0, 1) := by decide +kernel
theorem dX8_doByLots_41 : decode cX8_doByLots 41 = .ok (.iconst 4, 1) := by decide +kernel
theorem dX8_doByLots_42 : decode cX8_doByLots 42 = .ok (.aload_n 0, 1) := by decide +kernel
theorem dX8_doByLots_43 : decode cX8_doByLots 43 = .ok (.iload_n 2, 1) := by decide +kernel
theorem dX8_doByLots_44 : decode cX8_doByLots 44 = .ok (.iload_n 3, 1) := by decide +kernel
theorem dX8_doByLots_45 : decode cX8_doByLots 45 = .ok (.iload 4, 2) := by decide +kernel
theorem dX8_doByLots_47 : decode cX8_doByLots 47 = .ok (.iload 5, 2) := by decide +kernel
theorem dX8_doByLots_49 : decode cX8_doByLots 49 = .ok (.iconst 0, 1) := by decide +kernel
theorem dX8_doByLots_50 : decode cX8_doByLots 50 = .ok (.invokevirtual 177, 3) := by decide +kernel
theorem dX8_doByLots_53 : decode cX8_doByLots 53 = .ok (.invokevirtual 132, 3) := by decide +kernel
theorem dX8_doByLots_56 : decode cX8_doByLots 56 = .ok (.istore 6, 2) := by decide +kernel
theorem dX8_doByLots_58 : decode cX8_doByLots 58 = .ok (.goto 58, 3) := by decide +kernel
theorem dX8_doByLots_61 : decode cX8_doByLots 61 = .ok (.iload_n 1, 1) := by decide +kernel
theorem dX8_doByLots_62 : decode cX8_doByLots 62 = .ok (.iconst 3, 1) := by decide +kernel
theorem dX8_doByLots_63 : decode cX8_doByLots 63 = .ok (.if_icmp .ge 42, 3) := by decide +kernel
theorem dX8_doByLots_66 : decode cX8_doByLots 66 = .ok (.aload_n 0, 1) := by decide +kernel
theorem dX8_doByLots_67 : decode cX8_doByLots 67 = .ok (.bipush 8, 2) := by decide +kernel
theorem dX8_doByLots_69 : decode cX8_doByLots 69 = .ok (.invokevirtual 189, 3) := by decide +kernel
theorem dX8_doByLots_72 : decode cX8_doByLots 72 = .ok (.istore_n 2, 1) := by decide +kernel
theorem dX8_doByLots_73 : decode cX8_doByLots 73 = .ok (.aload_n 0, 1) := by decide +kernel
theorem dX8_doByLots_74 : decode cX8_doByLots 74 = .ok (.bipush 32, 2) := by decide +kernel
theorem dX8_doByLots_76 : decode cX8_doByLots 76 = .ok (.invokevirtual 189, 3) := by decide +kernel
theorem dX8_doByLots_79 : decode cX8_doByLots 79 = .ok (.istore_n 3, 1) := by decide +kernel
theorem dX8_doByLots_80 : decode cX8_doByLots 80 = .ok (.iload_n 1, 1) := by decide +kernel
theorem dX8_doByLots_81 : decode cX8_doByLots 81 = .ok (.iconst 1, 1) := by decide +kernel
theorem dX8_doByLots_82 : decode cX8_doByLots 82 = .ok (.if_icmp .ne 12, 3) := by decide +kernel
theorem dX8_doByLots_85 : decode cX8_doByLots 85 = .ok (.aload_n 0, 1) := by decide +kernel
theorem dX8_doByLots_86 : decode cX8_doByLots 86 = .ok (.iload_n 2, 1) := by decide +kernel
theorem dX8_doByLots_87 : decode cX8_doByLots 87 = .ok (.iload_n 3, 1) := by decide +kernel
theorem dX8_doByLots_88 : decode cX8_doByLots 88 = .ok (.invokevirtual 195, 3) := by decide +kernel
theorem dX8_doByLots_91 : decode cX8_doByLots 91 = .ok (.goto 9, 3) := by decide +kernel
theorem dX8_doByLots_94 : decode cX8_doByLots 94 = .ok (.aload_n 0, 1) := by decide +kernel
theorem dX8_doByLots_95 : decode cX8_doByLots 95 = .ok (.iload_n 2, 1) := by decide +kernel
theorem dX8_doByLots_96 : decode cX8_doByLots 96 = .ok (.iload_n 3, 1) := by decide +kernel
theorem dX8_doByLots_97 : decode cX8_doByLots 97 = .ok (.invokevirtual 198, 3) := by decide +kernel
theorem dX8_doByLots_100 : decode cX8_doByLots 100 = .ok (.istore 4, 2) := by decide +kernel
theorem dX8_doByLots_102 : decode cX8_doByLots 102 = .ok (.goto 14, 3) := by decide +kernel
theorem dX8_doByLots_105 : decode cX8_doByLots 105 = .ok (.aload_n 0, 1) := by decide +kernel
theorem dX8_doByLots_106 : decode cX8_doByLots 106 = .ok (.aload_n 0, 1) := by decide +kernel
theorem dX8_doByLots_107 : decode cX8_doByLots 107 = .ok (.bipush 8, 2) := by decide +kernel
theorem dX8_doByLots_109 : decode cX8_doByLots 109 = .ok (.invokevirtual 189, 3) := by decide +kernel
theorem dX8_doByLots_112 : decode cX8_doByLots 112 = .ok (.invokevirtual 201, 3) := by decide +kernel
theorem dX8_doByLots_115 : decode cX8_doByLots 115 = .ok (.istore_n 2, 1) := by decide +kernel
theorem dX8_doByLots_116 : decode cX8_doByLots 116 = .ok (.return_, 1) := by decide +kernel
set_option maxRecDepth 20000 in
theorem ggX8_drift_X8_in : GoodIn wsX8_drift wsX8_in := goodIn_r _ [7] (by decide +kernel) (by decide +kernel)
set_option maxRecDepth 20000 in
theorem gX8_drift_X8_in : GoodIn wsX8_drift (va_wsS RX8 77 yX8_in wsX8_in) := goodIn_app (goodIn_of _ (by decide +kernel)) ggX8_drift_X8_in
set_option maxRecDepth 20000 in
theorem ggX8_drift_X8_doByLots : GoodIn wsX8_drift wsX8_doByLots := goodIn_r _ [11, 12, 13, 14, 6, 15, 16, 17, 18, 19, 20, 21, 22, 23, 24, 25, 26, 27, 28, 29, 30, 31, 32, 33, 34, 35, 36, 37, 38, 39, 40, 41, 42, 43, 44, 45, 46, 47, 48, 49, 50, 51, 52, 53, 54, 55, 56, 57, 58, 59, 60, 61, 62, 63, 64, 65, 66, 67, 68, 69, 70, 71, 4, 5, 7, 72, 73, 74, 75, 76, 77, 78, 79, 80, 81, 82, 83, 84, 85, 86, 87, 88, 3, 89, 90, 91, 92, 93, 94, 95, 96, 97, 98, 99, 100, 101, 102, 103, 104, 105, 106, 107, 108, 109, 110, 111, 112, 113, 114, 115, 116, 117, 118, 119, 120, 121, 122, 123, 124, 125, 126, 127, 128, 129, 130, 131, 132, 133, 134, 135, 136, 137, 138, 139] (by decide +kernel) (by decide +kernel)
set_option maxRecDepth 20000 in
theorem gX8_drift_X8_doByLots : GoodIn wsX8_drift (wsV RX8 206 RX8 yX8_doByLots wsX8_doByLots) := goodIn_app (goodIn_of _ (by decide +kernel)) ggX8_drift_X8_doByLots
theorem dX8_drift_0 : decode cX8_drift 0 = .ok (.iload_n 1, 1) := by decide +kernel
theorem dX8_drift_1 : decode cX8_drift 1 = .ok (.i2l, 1) := by decide +kernel
theorem dX8_drift_2 : decode cX8_drift 2 = .ok (.lconst 1, 1) := by decide +kernel
theorem dX8_drift_3 : decode cX8_drift 3 = .ok (.ldc2_w 204, 3) := by decide +kernel
theorem dX8_drift_6 : decode cX8_drift 6 = .ok (.invokestatic 77, 3) := by decide +kernel
theorem dX8_drift_9 : decode cX8_drift 9 = .ok (.ifCond .ne 6, 3) := by decide +kernel
theorem dX8_drift_12 : decode cX8_drift 12 = .ok (.ldc 127, 2) := by decide +kernel
theorem dX8_drift_14 : decode cX8_drift 14 = .ok (.ireturn, 1) := by decide +kernel
theorem dX8_drift_15 : decode cX8_drift 15 = .ok (.iconst 0, 1) := by decide +kernel
theorem dX8_drift_16 : decode cX8_drift 16 = .ok (.istore_n 2, 1) := by decide +kernel
theorem dX8_drift_17 : decode cX8_drift 17 = .ok (.iload_n 2, 1) := by decide +kernel
theorem dX8_drift_18 : decode cX8_drift 18 = .ok (.iload_n 1, 1) := by decide +kernel
theorem dX8_drift_19 : decode cX8_drift 19 = .ok (.if_icmp .ge 13, 3) := by decide +kernel
theorem dX8_drift_22 : decode cX8_drift 22 = .ok (.aload_n 0, 1) := by decide +kernel
theorem dX8_drift_23 : decode cX8_drift 23 = .ok (.invokevirtual 206, 3) := by decide +kernel
theorem dX8_drift_26 : decode cX8_drift 26 = .ok (.iinc 2 1, 3) := by decide +kernel
theorem dX8_drift_29 : decode cX8_drift 29 = .ok (.goto (-12), 3) := by decide +kernel
theorem dX8_drift_32 : decode cX8_drift 32 = .ok (.aload_n 0, 1) := by decide +kernel
theorem dX8_drift_33 : decode cX8_drift 33 = .ok (.getfield 95, 3) := by decide +kernel
theorem dX8_drift_36 : decode cX8_drift 36 = .ok (.ireturn, 1) := by decide +kernel
set_option maxRecDepth 20000 in
theorem ggX8_lot_X8_in : GoodIn wsX8_lot wsX8_in := goodIn_r _ [7] (by decide +kernel) (by decide +kernel)
set_option maxRecDepth 20000 in
theorem gX8_lot_X8_in : GoodIn wsX8_lot (va_wsS RX8 77 yX8_in wsX8_in) := goodIn_app (goodIn_of _ (by decide +kernel)) ggX8_lot_X8_in
theorem dX8_lot_0 : decode cX8_lot 0 = .ok (.iload_n 1, 1) := by decide +kernel
theorem dX8_lot_1 : decode cX8_lot 1 = .ok (.i2l, 1) := by decide +kernel
theorem dX8_lot_2 : decode cX8_lot 2 = .ok (.lconst 1, 1) := by decide +kernel
theorem dX8_lot_3 : decode cX8_lot 3 = .ok (.ldc2_w 209, 3) := by decide +kernel
theorem dX8_lot_6 : decode cX8_lot 6 = .ok (.invokestatic 77, 3) := by decide +kernel
theorem dX8_lot_9 : decode cX8_lot 9 = .ok (.ifCond .ne 6, 3) := by decide +kernel
theorem dX8_lot_12 : decode cX8_lot 12 = .ok (.ldc 127, 2) := by decide +kernel
theorem dX8_lot_14 : decode cX8_lot 14 = .ok (.ireturn, 1) := by decide +kernel
theorem dX8_lot_15 : decode cX8_lot 15 = .ok (.aload_n 0, 1) := by decide +kernel
theorem dX8_lot_16 : decode cX8_lot 16 = .ok (.getfield 92, 3) := by decide +kernel
theorem dX8_lot_19 : decode cX8_lot 19 = .ok (.istore_n 2, 1) := by decide +kernel
theorem dX8_lot_20 : decode cX8_lot 20 = .ok (.aload_n 0, 1) := by decide +kernel
theorem dX8_lot_21 : decode cX8_lot 21 = .ok (.iload_n 1, 1) := by decide +kernel
theorem dX8_lot_22 : decode cX8_lot 22 = .ok (.putfield 92, 3) := by decide +kernel
theorem dX8_lot_25 : decode cX8_lot 25 = .ok (.iload_n 2, 1) := by decide +kernel
theorem dX8_lot_26 : decode cX8_lot 26 = .ok (.ireturn, 1) := by decide +kernel
theorem dX8_undo_0 : decode cX8_undo 0 = .ok (.aload_n 0, 1) := by decide +kernel
theorem dX8_undo_1 : decode cX8_undo 1 = .ok (.getfield 108, 3) := by decide +kernel
theorem dX8_undo_4 : decode cX8_undo 4 = .ok (.ifCond .ne 6, 3) := by decide +kernel
theorem dX8_undo_7 : decode cX8_undo 7 = .ok (.ldc 187, 2) := by decide +kernel
theorem dX8_undo_9 : decode cX8_undo 9 = .ok (.ireturn, 1) := by decide +kernel
theorem dX8_undo_10 : decode cX8_undo 10 = .ok (.aload_n 0, 1) := by decide +kernel
theorem dX8_undo_11 : decode cX8_undo 11 = .ok (.dup, 1) := by decide +kernel
theorem dX8_undo_12 : decode cX8_undo 12 = .ok (.getfield 108, 3) := by decide +kernel
theorem dX8_undo_15 : decode cX8_undo 15 = .ok (.iconst 1, 1) := by decide +kernel
theorem dX8_undo_16 : decode cX8_undo 16 = .ok (.isub, 1) := by decide +kernel
theorem dX8_undo_17 : decode cX8_undo 17 = .ok (.putfield 108, 3) := by decide +kernel
theorem dX8_undo_20 : decode cX8_undo 20 = .ok (.aload_n 0, 1) := by decide +kernel
theorem dX8_undo_21 : decode cX8_undo 21 = .ok (.getfield 53, 3) := by decide +kernel
theorem dX8_undo_24 : decode cX8_undo 24 = .ok (.aload_n 0, 1) := by decide +kernel
theorem dX8_undo_25 : decode cX8_undo 25 = .ok (.getfield 108, 3) := by decide +kernel
theorem dX8_undo_28 : decode cX8_undo 28 = .ok (.iaload, 1) := by decide +kernel
theorem dX8_undo_29 : decode cX8_undo 29 = .ok (.istore_n 1, 1) := by decide +kernel
theorem dX8_undo_30 : decode cX8_undo 30 = .ok (.aload_n 0, 1) := by decide +kernel
theorem dX8_undo_31 : decode cX8_undo 31 = .ok (.getfield 7, 3) := by decide +kernel
theorem dX8_undo_34 : decode cX8_undo 34 = .ok (.iload_n 1, 1) := by decide +kernel
theorem dX8_undo_35 : decode cX8_undo 35 = .ok (.aload_n 0, 1) := by decide +kernel
theorem dX8_undo_36 : decode cX8_undo 36 = .ok (.getfield 56, 3) := by decide +kernel
theorem dX8_undo_39 : decode cX8_undo 39 = .ok (.aload_n 0, 1) := by decide +kernel
theorem dX8_undo_40 : decode cX8_undo 40 = .ok (.getfield 108, 3) := by decide +kernel
theorem dX8_undo_43 : decode cX8_undo 43 = .ok (.iaload, 1) := by decide +kernel
theorem dX8_undo_44 : decode cX8_undo 44 = .ok (.iastore, 1) := by decide +kernel
theorem dX8_undo_45 : decode cX8_undo 45 = .ok (.aload_n 0, 1) := by decide +kernel
theorem dX8_undo_46 : decode cX8_undo 46 = .ok (.getfield 13, 3) := by decide +kernel
theorem dX8_undo_49 : decode cX8_undo 49 = .ok (.iload_n 1, 1) := by decide +kernel
theorem dX8_undo_50 : decode cX8_undo 50 = .ok (.aload_n 0, 1) := by decide +kernel
theorem dX8_undo_51 : decode cX8_undo 51 = .ok (.getfield 59, 3) := by decide +kernel
theorem dX8_undo_54 : decode cX8_undo 54 = .ok (.aload_n 0, 1) := by decide +kernel
theorem dX8_undo_55 : decode cX8_undo 55 = .ok (.getfield 108, 3) := by decide +kernel
theorem dX8_undo_58 : decode cX8_undo 58 = .ok (.iaload, 1) := by decide +kernel
theorem dX8_undo_59 : decode cX8_undo 59 = .ok (.iastore, 1) := by decide +kernel
theorem dX8_undo_60 : decode cX8_undo 60 = .ok (.aload_n 0, 1) := by decide +kernel
theorem dX8_undo_61 : decode cX8_undo 61 = .ok (.getfield 16, 3) := by decide +kernel
theorem dX8_undo_64 : decode cX8_undo 64 = .ok (.iload_n 1, 1) := by decide +kernel
theorem dX8_undo_65 : decode cX8_undo 65 = .ok (.aload_n 0, 1) := by decide +kernel
theorem dX8_undo_66 : decode cX8_undo 66 = .ok (.getfield 62, 3) := by decide +kernel
theorem dX8_undo_69 : decode cX8_undo 69 = .ok (.aload_n 0, 1) := by decide +kernel
theorem dX8_undo_70 : decode cX8_undo 70 = .ok (.getfield 108, 3) := by decide +kernel
theorem dX8_undo_73 : decode cX8_undo 73 = .ok (.iaload, 1) := by decide +kernel
theorem dX8_undo_74 : decode cX8_undo 74 = .ok (.iastore, 1) := by decide +kernel
theorem dX8_undo_75 : decode cX8_undo 75 = .ok (.aload_n 0, 1) := by decide +kernel
theorem dX8_undo_76 : decode cX8_undo 76 = .ok (.getfield 108, 3) := by decide +kernel
theorem dX8_undo_79 : decode cX8_undo 79 = .ok (.ireturn, 1) := by decide +kernel
set_option maxRecDepth 20000 in
theorem ggX8_unknownBits_X8_bits : GoodIn wsX8_unknownBits wsX8_bits := goodIn_r _ [5] (by decide +kernel) (by decide +kernel)
set_option maxRecDepth 20000 in
theorem gX8_unknownBits_X8_bits : GoodIn wsX8_unknownBits (va_wsS RX8 172 yX8_bits wsX8_bits) := goodIn_app (goodIn_of _ (by decide +kernel)) ggX8_unknownBits_X8_bits
theorem dX8_unknownBits_0 : decode cX8_unknownBits 0 = .ok (.iconst 0, 1) := by decide +kernel
theorem dX8_unknownBits_1 : decode cX8_unknownBits 1 = .ok (.istore_n 3, 1) := by decide +kernel
theorem dX8_unknownBits_2 : decode cX8_unknownBits 2 = .ok (.iload_n 1, 1) := by decide +kernel
theorem dX8_unknownBits_3 : decode cX8_unknownBits 3 = .ok (.istore 4, 2) := by decide +kernel
theorem dX8_unknownBits_5 : decode cX8_unknownBits 5 = .ok (.iload 4, 2) := by decide +kernel
theorem dX8_unknownBits_7 : decode cX8_unknownBits 7 = .ok (.iload_n 1, 1) := by decide +kernel
theorem dX8_unknownBits_8 : decode cX8_unknownBits 8 = .ok (.iload_n 2, 1) := by decide +kernel
theorem dX8_unknownBits_9 : decode cX8_unknownBits 9 = .ok (.iadd, 1) := by decide +kernel
theorem dX8_unknownBits_10 : decode cX8_unknownBits 10 = .ok (.if_icmp .ge 22, 3) := by decide +kernel
theorem dX8_unknownBits_13 : decode cX8_unknownBits 13 = .ok (.iload_n 3, 1) := by decide +kernel
theorem dX8_unknownBits_14 : decode cX8_unknownBits 14 = .ok (.aload_n 0, 1) := by decide +kernel
theorem dX8_unknownBits_15 : decode cX8_unknownBits 15 = .ok (.getfield 13, 3) := by decide +kernel
theorem dX8_unknownBits_18 : decode cX8_unknownBits 18 = .ok (.iload 4, 2) := by decide +kernel
theorem dX8_unknownBits_20 : decode cX8_unknownBits 20 = .ok (.iaload, 1) := by decide +kernel
theorem dX8_unknownBits_21 : decode cX8_unknownBits 21 = .ok (.invokestatic 172, 3) := by decide +kernel
theorem dX8_unknownBits_24 : decode cX8_unknownBits 24 = .ok (.iadd, 1) := by decide +kernel
theorem dX8_unknownBits_25 : decode cX8_unknownBits 25 = .ok (.istore_n 3, 1) := by decide +kernel
theorem dX8_unknownBits_26 : decode cX8_unknownBits 26 = .ok (.iinc 4 1, 3) := by decide +kernel
theorem dX8_unknownBits_29 : decode cX8_unknownBits 29 = .ok (.goto (-24), 3) := by decide +kernel
theorem dX8_unknownBits_32 : decode cX8_unknownBits 32 = .ok (.iload_n 3, 1) := by decide +kernel
theorem dX8_unknownBits_33 : decode cX8_unknownBits 33 = .ok (.ireturn, 1) := by decide +kernel
theorem dX8_deadMany_0 : decode cX8_deadMany 0 = .ok (.iconst 0, 1) := by decide +kernel
theorem dX8_deadMany_1 : decode cX8_deadMany 1 = .ok (.istore_n 1, 1) := by decide +kernel
theorem dX8_deadMany_2 : decode cX8_deadMany 2 = .ok (.iconst 0, 1) := by decide +kernel
theorem dX8_deadMany_3 : decode cX8_deadMany 3 = .ok (.istore_n 2, 1) := by decide +kernel
theorem dX8_deadMany_4 : decode cX8_deadMany 4 = .ok (.iload_n 2, 1) := by decide +kernel
theorem dX8_deadMany_5 : decode cX8_deadMany 5 = .ok (.bipush 32, 2) := by decide +kernel
theorem dX8_deadMany_7 : decode cX8_deadMany 7 = .ok (.if_icmp .ge 26, 3) := by decide +kernel
theorem dX8_deadMany_10 : decode cX8_deadMany 10 = .ok (.iload_n 1, 1) := by decide +kernel
theorem dX8_deadMany_11 : decode cX8_deadMany 11 = .ok (.aload_n 0, 1) := by decide +kernel
theorem dX8_deadMany_12 : decode cX8_deadMany 12 = .ok (.getfield 19, 3) := by decide +kernel
theorem dX8_deadMany_15 : decode cX8_deadMany 15 = .ok (.iload_n 2, 1) := by decide +kernel
theorem dX8_deadMany_16 : decode cX8_deadMany 16 = .ok (.baload, 1) := by decide +kernel
theorem dX8_deadMany_17 : decode cX8_deadMany 17 = .ok (.ifCond .eq 7, 3) := by decide +kernel
theorem dX8_deadMany_20 : decode cX8_deadMany 20 = .ok (.iconst 1, 1) := by decide +kernel
theorem dX8_deadMany_21 : decode cX8_deadMany 21 = .ok (.goto 4, 3) := by decide +kernel
theorem dX8_deadMany_24 : decode cX8_deadMany 24 = .ok (.iconst 0, 1) := by decide +kernel
theorem dX8_deadMany_25 : decode cX8_deadMany 25 = .ok (.iadd, 1) := by decide +kernel
theorem dX8_deadMany_26 : decode cX8_deadMany 26 = .ok (.istore_n 1, 1) := by decide +kernel
theorem dX8_deadMany_27 : decode cX8_deadMany 27 = .ok (.iinc 2 1, 3) := by decide +kernel
theorem dX8_deadMany_30 : decode cX8_deadMany 30 = .ok (.goto (-26), 3) := by decide +kernel
theorem dX8_deadMany_33 : decode cX8_deadMany 33 = .ok (.iload_n 1, 1) := by decide +kernel
theorem dX8_deadMany_34 : decode cX8_deadMany 34 = .ok (.ireturn, 1) := by decide +kernel
theorem dX8_keptCries_0 : decode cX8_keptCries 0 = .ok (.aload_n 0, 1) := by decide +kernel
theorem dX8_keptCries_1 : decode cX8_keptCries 1 = .ok (.getfield 95, 3) := by decide +kernel
theorem dX8_keptCries_4 : decode cX8_keptCries 4 = .ok (.bipush 20, 2) := by decide +kernel
theorem dX8_keptCries_6 : decode cX8_keptCries 6 = .ok (.if_icmp .ge 10, 3) := by decide +kernel
theorem dX8_keptCries_9 : decode cX8_keptCries 9 = .ok (.aload_n 0, 1) := by decide +kernel
theorem dX8_keptCries_10 : decode cX8_keptCries 10 = .ok (.getfield 95, 3) := by decide +kernel
theorem dX8_keptCries_13 : decode cX8_keptCries 13 = .ok (.goto 5, 3) := by decide +kernel
theorem dX8_keptCries_16 : decode cX8_keptCries 16 = .ok (.bipush 20, 2) := by decide +kernel
theorem dX8_keptCries_18 : decode cX8_keptCries 18 = .ok (.ireturn, 1) := by decide +kernel
set_option maxRecDepth 20000 in
theorem ggX8_told_X8_keptCries : GoodIn wsX8_told wsX8_keptCries := goodIn_r _ [13, 2, 32, 33, 34, 35, 36, 37, 38, 39, 40, 41, 42, 43, 44, 45, 46, 47, 48, 49, 50, 51, 52, 53, 54, 55, 56, 57, 58, 59] (by decide +kernel) (by decide +kernel)
set_option maxRecDepth 20000 in
theorem gX8_told_X8_keptCries : GoodIn wsX8_told (wsV RX8 211 RX8 yX8_keptCries wsX8_keptCries) := goodIn_app (goodIn_of _ (by decide +kernel)) ggX8_told_X8_keptCries
set_option maxRecDepth 20000 in
theorem ggX8_told_X8_letOnes : GoodIn wsX8_told wsX8_letOnes := goodIn_r _ [17, 4, 18, 32, 33, 34, 35, 36, 37, 38, 39, 40, 41, 42, 43, 44, 45, 46, 47, 48, 49, 50, 51, 52, 53, 54, 55, 56, 57, 58, 59] (by decide +kernel) (by decide +kernel)
set_option maxRecDepth 20000 in
theorem gX8_told_X8_letOnes : GoodIn wsX8_told (wsV RX8 192 RX8 yX8_letOnes wsX8_letOnes) := goodIn_app (goodIn_of _ (by decide +kernel)) ggX8_told_X8_letOnes
set_option maxRecDepth 20000 in
theorem ggX8_told_X8_deadMany : GoodIn wsX8_told wsX8_deadMany := goodIn_r _ [22, 23, 32, 33, 34, 35, 36, 37, 38, 39, 40, 41, 42, 43, 44, 45, 46, 47, 48, 49, 50, 51, 52, 53, 54, 55, 56, 57, 58, 59] (by decide +kernel) (by decide +kernel)
set_option maxRecDepth 20000 in
theorem gX8_told_X8_deadMany : GoodIn wsX8_told (wsV RX8 214 RX8 yX8_deadMany wsX8_deadMany) := goodIn_app (goodIn_of _ (by decide +kernel)) ggX8_told_X8_deadMany
set_option maxRecDepth 20000 in
theorem ggX8_told_X8_unknownBits : GoodIn wsX8_told wsX8_unknownBits := goodIn_r _ [27, 28, 29, 30, 12, 31, 32, 33, 34, 35, 36, 37, 38, 39, 40, 41, 42, 43, 44, 45, 46, 47, 48, 49, 50, 51, 52, 53, 54, 55, 56, 57, 58, 59] (by decide +kernel) (by decide +kernel)
set_option maxRecDepth 20000 in
theorem gX8_told_X8_unknownBits : GoodIn wsX8_told (wsV RX8 217 RX8 yX8_unknownBits wsX8_unknownBits) := goodIn_app (goodIn_of _ (by decide +kernel)) ggX8_told_X8_unknownBits
theorem dX8_told_0 : decode cX8_told 0 = .ok (.iload_n 1, 1) := by decide +kernel
theorem dX8_told_1 : decode cX8_told 1 = .ok (.tableswitch 130 0 11 #[63, 68, 73, 78, 83, 88, 93, 98, 103, 111, 120, 125], 63) := by decide +kernel
theorem dX8_told_64 : decode cX8_told 64 = .ok (.aload_n 0, 1) := by decide +kernel
theorem dX8_told_65 : decode cX8_told 65 = .ok (.getfield 89, 3) := by decide +kernel
theorem dX8_told_68 : decode cX8_told 68 = .ok (.ireturn, 1) := by decide +kernel
theorem dX8_told_69 : decode cX8_told 69 = .ok (.aload_n 0, 1) := by decide +kernel
theorem dX8_told_70 : decode cX8_told 70 = .ok (.getfield 95, 3) := by decide +kernel
theorem dX8_told_73 : decode cX8_told 73 = .ok (.ireturn, 1) := by decide +kernel
theorem dX8_told_74 : decode cX8_told 74 = .ok (.aload_n 0, 1) := by decide +kernel
theorem dX8_told_75 : decode cX8_told 75 = .ok (.invokevirtual 211, 3) := by decide +kernel
theorem dX8_told_78 : decode cX8_told 78 = .ok (.ireturn, 1) := by decide +kernel
theorem dX8_told_79 : decode cX8_told 79 = .ok (.aload_n 0, 1) := by decide +kernel
theorem dX8_told_80 : decode cX8_told 80 = .ok (.getfield 98, 3) := by decide +kernel
theorem dX8_told_83 : decode cX8_told 83 = .ok (.ireturn, 1) := by decide +kernel
theorem dX8_told_84 : decode cX8_told 84 = .ok (.aload_n 0, 1) := by decide +kernel
theorem dX8_told_85 : decode cX8_told 85 = .ok (.getfield 83, 3) := by decide +kernel
theorem dX8_told_88 : decode cX8_told 88 = .ok (.ireturn, 1) := by decide +kernel
theorem dX8_told_89 : decode cX8_told 89 = .ok (.aload_n 0, 1) := by decide +kernel
theorem dX8_told_90 : decode cX8_told 90 = .ok (.invokevirtual 192, 3) := by decide +kernel
theorem dX8_told_93 : decode cX8_told 93 = .ok (.ireturn, 1) := by decide +kernel
theorem dX8_told_94 : decode cX8_told 94 = .ok (.aload_n 0, 1) := by decide +kernel
theorem dX8_told_95 : decode cX8_told 95 = .ok (.invokevirtual 214, 3) := by decide +kernel
theorem dX8_told_98 : decode cX8_told 98 = .ok (.ireturn, 1) := by decide +kernel
theorem dX8_told_99 : decode cX8_told 99 = .ok (.aload_n 0, 1) := by decide +kernel
theorem dX8_told_100 : decode cX8_told 100 = .ok (.getfield 105, 3) := by decide +kernel
theorem dX8_told_103 : decode cX8_told 103 = .ok (.ireturn, 1) := by decide +kernel
theorem dX8_told_104 : decode cX8_told 104 = .ok (.aload_n 0, 1) := by decide +kernel
theorem dX8_told_105 : decode cX8_told 105 = .ok (.iconst 0, 1) := by decide +kernel
theorem dX8_told_106 : decode cX8_told 106 = .ok (.bipush 8, 2) := by decide +kernel
theorem dX8_told_108 : decode cX8_told 108 = .ok (.invokevirtual 217, 3) := by decide +kernel
theorem dX8_told_111 : decode cX8_told 111 = .ok (.ireturn, 1) := by decide +kernel
theorem dX8_told_112 : decode cX8_told 112 = .ok (.aload_n 0, 1) := by decide +kernel
theorem dX8_told_113 : decode cX8_told 113 = .ok (.bipush 8, 2) := by decide +kernel
theorem dX8_told_115 : decode cX8_told 115 = .ok (.bipush 32, 2) := by decide +kernel
theorem dX8_told_117 : decode cX8_told 117 = .ok (.invokevirtual 217, 3) := by decide +kernel
theorem dX8_told_120 : decode cX8_told 120 = .ok (.ireturn, 1) := by decide +kernel
theorem dX8_told_121 : decode cX8_told 121 = .ok (.aload_n 0, 1) := by decide +kernel
theorem dX8_told_122 : decode cX8_told 122 = .ok (.getfield 92, 3) := by decide +kernel
theorem dX8_told_125 : decode cX8_told 125 = .ok (.ireturn, 1) := by decide +kernel
theorem dX8_told_126 : decode cX8_told 126 = .ok (.aload_n 0, 1) := by decide +kernel
theorem dX8_told_127 : decode cX8_told 127 = .ok (.getfield 108, 3) := by decide +kernel
theorem dX8_told_130 : decode cX8_told 130 = .ok (.ireturn, 1) := by decide +kernel
theorem dX8_told_131 : decode cX8_told 131 = .ok (.ldc 127, 2) := by decide +kernel
theorem dX8_told_133 : decode cX8_told 133 = .ok (.ireturn, 1) := by decide +kernel
theorem dX8_mark_0 : decode cX8_mark 0 = .ok (.aload_n 0, 1) := by decide +kernel
theorem dX8_mark_1 : decode cX8_mark 1 = .ok (.getfield 101, 3) := by decide +kernel
theorem dX8_mark_4 : decode cX8_mark 4 = .ok (.lreturn, 1) := by decide +kernel
set_option maxRecDepth 20000 in
theorem ggX8_register_X8_isRegister : GoodIn wsX8_register wsX8_isRegister := goodIn_r _ [9, 10, 11, 12, 8, 13] (by decide +kernel) (by decide +kernel)
set_option maxRecDepth 20000 in
theorem gX8_register_X8_isRegister : GoodIn wsX8_register (va_wsS RX8 119 yX8_isRegister wsX8_isRegister) := goodIn_app (goodIn_of _ (by decide +kernel)) ggX8_register_X8_isRegister
set_option maxRecDepth 20000 in
theorem ggX8_register_X8_bits : GoodIn wsX8_register wsX8_bits := goodIn_r _ [16] (by decide +kernel) (by decide +kernel)
set_option maxRecDepth 20000 in
theorem gX8_register_X8_bits : GoodIn wsX8_register (va_wsS RX8 172 yX8_bits wsX8_bits) := goodIn_app (goodIn_of _ (by decide +kernel)) ggX8_register_X8_bits
set_option maxRecDepth 20000 in
theorem ggX8_register_X8_isDecided : GoodIn wsX8_register wsX8_isDecided := goodIn_r _ [20, 3, 2, 21, 22, 23, 24, 25, 26, 27, 28, 29, 30, 31, 32, 33, 34, 35, 36, 37, 38, 39, 40, 41, 42, 43, 44, 45, 46, 47, 48] (by decide +kernel) (by decide +kernel)
set_option maxRecDepth 20000 in
theorem gX8_register_X8_isDecided : GoodIn wsX8_register (wsV RX8 181 RX8 yX8_isDecided wsX8_isDecided) := goodIn_app (goodIn_of _ (by decide +kernel)) ggX8_register_X8_isDecided
theorem dX8_register_0 : decode cX8_register 0 = .ok (.iload_n 1, 1) := by decide +kernel
theorem dX8_register_1 : decode cX8_register 1 = .ok (.invokestatic 119, 3) := by decide +kernel
theorem dX8_register_4 : decode cX8_register 4 = .ok (.ifCond .ne 6, 3) := by decide +kernel
theorem dX8_register_7 : decode cX8_register 7 = .ok (.ldc 123, 2) := by decide +kernel
theorem dX8_register_9 : decode cX8_register 9 = .ok (.ireturn, 1) := by decide +kernel
theorem dX8_register_10 : decode cX8_register 10 = .ok (.iload_n 2, 1) := by decide +kernel
theorem dX8_register_11 : decode cX8_register 11 = .ok (.tableswitch 118 0 6 #[41, 48, 55, 62, 78, 92, 104], 41) := by decide +kernel
theorem dX8_register_52 : decode cX8_register 52 = .ok (.aload_n 0, 1) := by decide +kernel
theorem dX8_register_53 : decode cX8_register 53 = .ok (.getfield 7, 3) := by decide +kernel
theorem dX8_register_56 : decode cX8_register 56 = .ok (.iload_n 1, 1) := by decide +kernel
theorem dX8_register_57 : decode cX8_register 57 = .ok (.iaload, 1) := by decide +kernel
theorem dX8_register_58 : decode cX8_register 58 = .ok (.ireturn, 1) := by decide +kernel
theorem dX8_register_59 : decode cX8_register 59 = .ok (.aload_n 0, 1) := by decide +kernel
theorem dX8_register_60 : decode cX8_register 60 = .ok (.getfield 13, 3) := by decide +kernel
theorem dX8_register_63 : decode cX8_register 63 = .ok (.iload_n 1, 1) := by decide +kernel
theorem dX8_register_64 : decode cX8_register 64 = .ok (.iaload, 1) := by decide +kernel
theorem dX8_register_65 : decode cX8_register 65 = .ok (.ireturn, 1) := by decide +kernel
theorem dX8_register_66 : decode cX8_register 66 = .ok (.aload_n 0, 1) := by decide +kernel
theorem dX8_register_67 : decode cX8_register 67 = .ok (.getfield 16, 3) := by decide +kernel
theorem dX8_register_70 : decode cX8_register 70 = .ok (.iload_n 1, 1) := by decide +kernel
theorem dX8_register_71 : decode cX8_register 71 = .ok (.iaload, 1) := by decide +kernel
theorem dX8_register_72 : decode cX8_register 72 = .ok (.ireturn, 1) := by decide +kernel
theorem dX8_register_73 : decode cX8_register 73 = .ok (.aload_n 0, 1) := by decide +kernel
theorem dX8_register_74 : decode cX8_register 74 = .ok (.getfield 7, 3) := by decide +kernel
theorem dX8_register_77 : decode cX8_register 77 = .ok (.iload_n 1, 1) := by decide +kernel
theorem dX8_register_78 : decode cX8_register 78 = .ok (.iaload, 1) := by decide +kernel
theorem dX8_register_79 : decode cX8_register 79 = .ok (.aload_n 0, 1) := by decide +kernel
theorem dX8_register_80 : decode cX8_register 80 = .ok (.getfield 13, 3) := by decide +kernel
theorem dX8_register_83 : decode cX8_register 83 = .ok (.iload_n 1, 1) := by decide +kernel
theorem dX8_register_84 : decode cX8_register 84 = .ok (.iaload, 1) := by decide +kernel
theorem dX8_register_85 : decode cX8_register 85 = .ok (.iconst (-1), 1) := by decide +kernel
theorem dX8_register_86 : decode cX8_register 86 = .ok (.ixor, 1) := by decide +kernel
theorem dX8_register_87 : decode cX8_register 87 = .ok (.iand, 1) := by decide +kernel
theorem dX8_register_88 : decode cX8_register 88 = .ok (.ireturn, 1) := by decide +kernel
theorem dX8_register_89 : decode cX8_register 89 = .ok (.aload_n 0, 1) := by decide +kernel
theorem dX8_register_90 : decode cX8_register 90 = .ok (.getfield 7, 3) := by decide +kernel
theorem dX8_register_93 : decode cX8_register 93 = .ok (.iload_n 1, 1) := by decide +kernel
theorem dX8_register_94 : decode cX8_register 94 = .ok (.iaload, 1) := by decide +kernel
theorem dX8_register_95 : decode cX8_register 95 = .ok (.aload_n 0, 1) := by decide +kernel
theorem dX8_register_96 : decode cX8_register 96 = .ok (.getfield 13, 3) := by decide +kernel
theorem dX8_register_99 : decode cX8_register 99 = .ok (.iload_n 1, 1) := by decide +kernel
theorem dX8_register_100 : decode cX8_register 100 = .ok (.iaload, 1) := by decide +kernel
theorem dX8_register_101 : decode cX8_register 101 = .ok (.ior, 1) := by decide +kernel
theorem dX8_register_102 : decode cX8_register 102 = .ok (.ireturn, 1) := by decide +kernel
theorem dX8_register_103 : decode cX8_register 103 = .ok (.iconst 1, 1) := by decide +kernel
theorem dX8_register_104 : decode cX8_register 104 = .ok (.aload_n 0, 1) := by decide +kernel
theorem dX8_register_105 : decode cX8_register 105 = .ok (.getfield 13, 3) := by decide +kernel
theorem dX8_register_108 : decode cX8_register 108 = .ok (.iload_n 1, 1) := by decide +kernel
theorem dX8_register_109 : decode cX8_register 109 = .ok (.iaload, 1) := by decide +kernel
theorem dX8_register_110 : decode cX8_register 110 = .ok (.invokestatic 172, 3) := by decide +kernel
theorem dX8_register_113 : decode cX8_register 113 = .ok (.ishl, 1) := by decide +kernel
theorem dX8_register_114 : decode cX8_register 114 = .ok (.ireturn, 1) := by decide +kernel
theorem dX8_register_115 : decode cX8_register 115 = .ok (.aload_n 0, 1) := by decide +kernel
theorem dX8_register_116 : decode cX8_register 116 = .ok (.iload_n 1, 1) := by decide +kernel
theorem dX8_register_117 : decode cX8_register 117 = .ok (.invokevirtual 181, 3) := by decide +kernel
theorem dX8_register_120 : decode cX8_register 120 = .ok (.ifCond .eq 7, 3) := by decide +kernel
theorem dX8_register_123 : decode cX8_register 123 = .ok (.iconst 1, 1) := by decide +kernel
theorem dX8_register_124 : decode cX8_register 124 = .ok (.goto 4, 3) := by decide +kernel
theorem dX8_register_127 : decode cX8_register 127 = .ok (.iconst 0, 1) := by decide +kernel
theorem dX8_register_128 : decode cX8_register 128 = .ok (.ireturn, 1) := by decide +kernel
theorem dX8_register_129 : decode cX8_register 129 = .ok (.ldc 127, 2) := by decide +kernel
theorem dX8_register_131 : decode cX8_register 131 = .ok (.ireturn, 1) := by decide +kernel
set_option maxRecDepth 20000 in
theorem ggX8_octet_X8_isOctet : GoodIn wsX8_octet wsX8_isOctet := goodIn_r _ [11, 12, 13, 14, 10, 15] (by decide +kernel) (by decide +kernel)
set_option maxRecDepth 20000 in
theorem gX8_octet_X8_isOctet : GoodIn wsX8_octet (va_wsS RX8 146 yX8_isOctet wsX8_isOctet) := goodIn_app (goodIn_of _ (by decide +kernel)) ggX8_octet_X8_isOctet
theorem dX8_octet_0 : decode cX8_octet 0 = .ok (.iload_n 1, 1) := by decide +kernel
theorem dX8_octet_1 : decode cX8_octet 1 = .ok (.invokestatic 146, 3) := by decide +kernel
theorem dX8_octet_4 : decode cX8_octet 4 = .ok (.ifCond .ne 6, 3) := by decide +kernel
theorem dX8_octet_7 : decode cX8_octet 7 = .ok (.ldc 123, 2) := by decide +kernel
theorem dX8_octet_9 : decode cX8_octet 9 = .ok (.ireturn, 1) := by decide +kernel
theorem dX8_octet_10 : decode cX8_octet 10 = .ok (.iload_n 2, 1) := by decide +kernel
theorem dX8_octet_11 : decode cX8_octet 11 = .ok (.tableswitch 85 0 4 #[33, 43, 53, 63, 78], 33) := by decide +kernel
theorem dX8_octet_44 : decode cX8_octet 44 = .ok (.aload_n 0, 1) := by decide +kernel
theorem dX8_octet_45 : decode cX8_octet 45 = .ok (.getfield 7, 3) := by decide +kernel
theorem dX8_octet_48 : decode cX8_octet 48 = .ok (.bipush 8, 2) := by decide +kernel
theorem dX8_octet_50 : decode cX8_octet 50 = .ok (.iload_n 1, 1) := by decide +kernel
theorem dX8_octet_51 : decode cX8_octet 51 = .ok (.iadd, 1) := by decide +kernel
theorem dX8_octet_52 : decode cX8_octet 52 = .ok (.iaload, 1) := by decide +kernel
theorem dX8_octet_53 : decode cX8_octet 53 = .ok (.ireturn, 1) := by decide +kernel
theorem dX8_octet_54 : decode cX8_octet 54 = .ok (.aload_n 0, 1) := by decide +kernel
theorem dX8_octet_55 : decode cX8_octet 55 = .ok (.getfield 13, 3) := by decide +kernel
theorem dX8_octet_58 : decode cX8_octet 58 = .ok (.bipush 8, 2) := by decide +kernel
theorem dX8_octet_60 : decode cX8_octet 60 = .ok (.iload_n 1, 1) := by decide +kernel
theorem dX8_octet_61 : decode cX8_octet 61 = .ok (.iadd, 1) := by decide +kernel
theorem dX8_octet_62 : decode cX8_octet 62 = .ok (.iaload, 1) := by decide +kernel
theorem dX8_octet_63 : decode cX8_octet 63 = .ok (.ireturn, 1) := by decide +kernel
theorem dX8_octet_64 : decode cX8_octet 64 = .ok (.aload_n 0, 1) := by decide +kernel
theorem dX8_octet_65 : decode cX8_octet 65 = .ok (.getfield 16, 3) := by decide +kernel
theorem dX8_octet_68 : decode cX8_octet 68 = .ok (.bipush 8, 2) := by decide +kernel
theorem dX8_octet_70 : decode cX8_octet 70 = .ok (.iload_n 1, 1) := by decide +kernel
theorem dX8_octet_71 : decode cX8_octet 71 = .ok (.iadd, 1) := by decide +kernel
theorem dX8_octet_72 : decode cX8_octet 72 = .ok (.iaload, 1) := by decide +kernel
theorem dX8_octet_73 : decode cX8_octet 73 = .ok (.ireturn, 1) := by decide +kernel
theorem dX8_octet_74 : decode cX8_octet 74 = .ok (.aload_n 0, 1) := by decide +kernel
theorem dX8_octet_75 : decode cX8_octet 75 = .ok (.getfield 19, 3) := by decide +kernel
theorem dX8_octet_78 : decode cX8_octet 78 = .ok (.iload_n 1, 1) := by decide +kernel
theorem dX8_octet_79 : decode cX8_octet 79 = .ok (.baload, 1) := by decide +kernel
theorem dX8_octet_80 : decode cX8_octet 80 = .ok (.ifCond .eq 7, 3) := by decide +kernel
theorem dX8_octet_83 : decode cX8_octet 83 = .ok (.iconst 1, 1) := by decide +kernel
theorem dX8_octet_84 : decode cX8_octet 84 = .ok (.goto 4, 3) := by decide +kernel
theorem dX8_octet_87 : decode cX8_octet 87 = .ok (.iconst 0, 1) := by decide +kernel
theorem dX8_octet_88 : decode cX8_octet 88 = .ok (.ireturn, 1) := by decide +kernel
theorem dX8_octet_89 : decode cX8_octet 89 = .ok (.aload_n 0, 1) := by decide +kernel
theorem dX8_octet_90 : decode cX8_octet 90 = .ok (.getfield 23, 3) := by decide +kernel
theorem dX8_octet_93 : decode cX8_octet 93 = .ok (.iload_n 1, 1) := by decide +kernel
theorem dX8_octet_94 : decode cX8_octet 94 = .ok (.iaload, 1) := by decide +kernel
theorem dX8_octet_95 : decode cX8_octet 95 = .ok (.ireturn, 1) := by decide +kernel
theorem dX8_octet_96 : decode cX8_octet 96 = .ok (.ldc 127, 2) := by decide +kernel
theorem dX8_octet_98 : decode cX8_octet 98 = .ok (.ireturn, 1) := by decide +kernel
set_option maxRecDepth 20000 in
theorem ggX8_criesOf_X8_keptCries : GoodIn wsX8_criesOf wsX8_keptCries := goodIn_r _ [6, 7, 8, 9, 10, 11, 12, 13, 14, 15, 16, 17, 18, 19, 20, 21, 22, 23, 24, 25, 26, 27, 28, 29, 30, 31, 32, 33, 34, 35] (by decide +kernel) (by decide +kernel)
set_option maxRecDepth 20000 in
theorem gX8_criesOf_X8_keptCries : GoodIn wsX8_criesOf (wsV RX8 211 RX8 yX8_keptCries wsX8_keptCries) := goodIn_app (goodIn_of _ (by decide +kernel)) ggX8_criesOf_X8_keptCries
theorem dX8_criesOf_0 : decode cX8_criesOf 0 = .ok (.iconst 0, 1) := by decide +kernel
theorem dX8_criesOf_1 : decode cX8_criesOf 1 = .ok (.istore_n 2, 1) := by decide +kernel
theorem dX8_criesOf_2 : decode cX8_criesOf 2 = .ok (.iconst 0, 1) := by decide +kernel
theorem dX8_criesOf_3 : decode cX8_criesOf 3 = .ok (.istore_n 3, 1) := by decide +kernel
theorem dX8_criesOf_4 : decode cX8_criesOf 4 = .ok (.iload_n 3, 1) := by decide +kernel
theorem dX8_criesOf_5 : decode cX8_criesOf 5 = .ok (.aload_n 0, 1) := by decide +kernel
theorem dX8_criesOf_6 : decode cX8_criesOf 6 = .ok (.invokevirtual 211, 3) := by decide +kernel
theorem dX8_criesOf_9 : decode cX8_criesOf 9 = .ok (.if_icmp .ge 22, 3) := by decide +kernel
theorem dX8_criesOf_12 : decode cX8_criesOf 12 = .ok (.iload_n 2, 1) := by decide +kernel
theorem dX8_criesOf_13 : decode cX8_criesOf 13 = .ok (.aload_n 0, 1) := by decide +kernel
theorem dX8_criesOf_14 : decode cX8_criesOf 14 = .ok (.getfield 41, 3) := by decide +kernel
theorem dX8_criesOf_17 : decode cX8_criesOf 17 = .ok (.iload_n 3, 1) := by decide +kernel
theorem dX8_criesOf_18 : decode cX8_criesOf 18 = .ok (.iaload, 1) := by decide +kernel
theorem dX8_criesOf_19 : decode cX8_criesOf 19 = .ok (.iload_n 1, 1) := by decide +kernel
theorem dX8_criesOf_20 : decode cX8_criesOf 20 = .ok (.ishr, 1) := by decide +kernel
theorem dX8_criesOf_21 : decode cX8_criesOf 21 = .ok (.iconst 1, 1) := by decide +kernel
theorem dX8_criesOf_22 : decode cX8_criesOf 22 = .ok (.iand, 1) := by decide +kernel
theorem dX8_criesOf_23 : decode cX8_criesOf 23 = .ok (.iadd, 1) := by decide +kernel
theorem dX8_criesOf_24 : decode cX8_criesOf 24 = .ok (.istore_n 2, 1) := by decide +kernel
theorem dX8_criesOf_25 : decode cX8_criesOf 25 = .ok (.iinc 3 1, 3) := by decide +kernel
theorem dX8_criesOf_28 : decode cX8_criesOf 28 = .ok (.goto (-24), 3) := by decide +kernel
theorem dX8_criesOf_31 : decode cX8_criesOf 31 = .ok (.iload_n 2, 1) := by decide +kernel
theorem dX8_criesOf_32 : decode cX8_criesOf 32 = .ok (.ireturn, 1) := by decide +kernel
set_option maxRecDepth 20000 in
theorem ggX8_ground_X8_isGround : GoodIn wsX8_ground wsX8_isGround := goodIn_r _ [10, 11, 12, 13, 9, 14, 25, 26, 27, 28, 29, 30, 31, 32, 33, 34, 35, 36, 37, 38, 39, 40, 41, 42, 43, 44, 45, 46, 47, 48, 49, 50, 51, 52] (by decide +kernel) (by decide +kernel)
set_option maxRecDepth 20000 in
theorem gX8_ground_X8_isGround : GoodIn wsX8_ground (wsV RX8 136 RX8 yX8_isGround wsX8_isGround) := goodIn_app (goodIn_of _ (by decide +kernel)) ggX8_ground_X8_isGround
set_option maxRecDepth 20000 in
theorem ggX8_ground_X8_criesOf : GoodIn wsX8_ground wsX8_criesOf := goodIn_r _ [18, 19, 20, 21, 22, 9, 23, 24, 25, 26, 27, 28, 29, 30, 31, 32, 33, 34, 35, 36, 37, 38, 39, 40, 41, 42, 43, 44, 45, 46, 47, 48, 49, 50, 51, 52] (by decide +kernel) (by decide +kernel)
set_option maxRecDepth 20000 in
theorem gX8_ground_X8_criesOf : GoodIn wsX8_ground (wsV RX8 220 RX8 yX8_criesOf wsX8_criesOf) := goodIn_app (goodIn_of _ (by decide +kernel)) ggX8_ground_X8_criesOf
theorem dX8_ground_0 : decode cX8_ground 0 = .ok (.aload_n 0, 1) := by decide +kernel
theorem dX8_ground_1 : decode cX8_ground 1 = .ok (.iload_n 1, 1) := by decide +kernel
theorem dX8_ground_2 : decode cX8_ground 2 = .ok (.invokevirtual 136, 3) := by decide +kernel
theorem dX8_ground_5 : decode cX8_ground 5 = .ok (.ifCond .ne 6, 3) := by decide +kernel
theorem dX8_ground_8 : decode cX8_ground 8 = .ok (.ldc 123, 2) := by decide +kernel
theorem dX8_ground_10 : decode cX8_ground 10 = .ok (.ireturn, 1) := by decide +kernel
theorem dX8_ground_11 : decode cX8_ground 11 = .ok (.iload_n 2, 1) := by decide +kernel
theorem dX8_ground_12 : decode cX8_ground 12 = .ok (.tableswitch 67 0 3 #[32, 39, 46, 61], 32) := by decide +kernel
theorem dX8_ground_44 : decode cX8_ground 44 = .ok (.aload_n 0, 1) := by decide +kernel
theorem dX8_ground_45 : decode cX8_ground 45 = .ok (.getfield 26, 3) := by decide +kernel
theorem dX8_ground_48 : decode cX8_ground 48 = .ok (.iload_n 1, 1) := by decide +kernel
theorem dX8_ground_49 : decode cX8_ground 49 = .ok (.iaload, 1) := by decide +kernel
theorem dX8_ground_50 : decode cX8_ground 50 = .ok (.ireturn, 1) := by decide +kernel
theorem dX8_ground_51 : decode cX8_ground 51 = .ok (.aload_n 0, 1) := by decide +kernel
theorem dX8_ground_52 : decode cX8_ground 52 = .ok (.getfield 29, 3) := by decide +kernel
theorem dX8_ground_55 : decode cX8_ground 55 = .ok (.iload_n 1, 1) := by decide +kernel
theorem dX8_ground_56 : decode cX8_ground 56 = .ok (.iaload, 1) := by decide +kernel
theorem dX8_ground_57 : decode cX8_ground 57 = .ok (.ireturn, 1) := by decide +kernel
theorem dX8_ground_58 : decode cX8_ground 58 = .ok (.aload_n 0, 1) := by decide +kernel
theorem dX8_ground_59 : decode cX8_ground 59 = .ok (.getfield 32, 3) := by decide +kernel
theorem dX8_ground_62 : decode cX8_ground 62 = .ok (.iload_n 1, 1) := by decide +kernel
theorem dX8_ground_63 : decode cX8_ground 63 = .ok (.baload, 1) := by decide +kernel
theorem dX8_ground_64 : decode cX8_ground 64 = .ok (.ifCond .eq 7, 3) := by decide +kernel
theorem dX8_ground_67 : decode cX8_ground 67 = .ok (.iconst 1, 1) := by decide +kernel
theorem dX8_ground_68 : decode cX8_ground 68 = .ok (.goto 4, 3) := by decide +kernel
theorem dX8_ground_71 : decode cX8_ground 71 = .ok (.iconst 0, 1) := by decide +kernel
theorem dX8_ground_72 : decode cX8_ground 72 = .ok (.ireturn, 1) := by decide +kernel
theorem dX8_ground_73 : decode cX8_ground 73 = .ok (.aload_n 0, 1) := by decide +kernel
theorem dX8_ground_74 : decode cX8_ground 74 = .ok (.iload_n 1, 1) := by decide +kernel
theorem dX8_ground_75 : decode cX8_ground 75 = .ok (.invokevirtual 220, 3) := by decide +kernel
theorem dX8_ground_78 : decode cX8_ground 78 = .ok (.ireturn, 1) := by decide +kernel
theorem dX8_ground_79 : decode cX8_ground 79 = .ok (.ldc 127, 2) := by decide +kernel
theorem dX8_ground_81 : decode cX8_ground 81 = .ok (.ireturn, 1) := by decide +kernel
set_option maxRecDepth 20000 in
theorem ggX8_cry_X8_keptCries : GoodIn wsX8_cry wsX8_keptCries := goodIn_r _ [10, 11, 15, 16, 17, 18, 19, 20, 21, 22, 23, 24, 25, 26, 27, 28, 29, 30, 31, 32, 33, 34, 35, 36, 37, 38, 39, 40, 41, 42] (by decide +kernel) (by decide +kernel)
set_option maxRecDepth 20000 in
theorem gX8_cry_X8_keptCries : GoodIn wsX8_cry (wsV RX8 211 RX8 yX8_keptCries wsX8_keptCries) := goodIn_app (goodIn_of _ (by decide +kernel)) ggX8_cry_X8_keptCries
set_option maxRecDepth 20000 in
theorem ggX8_cry_X8_in : GoodIn wsX8_cry wsX8_in := goodIn_r _ [14] (by decide +kernel) (by decide +kernel)
set_option maxRecDepth 20000 in
theorem gX8_cry_X8_in : GoodIn wsX8_cry (va_wsS RX8 77 yX8_in wsX8_in) := goodIn_app (goodIn_of _ (by decide +kernel)) ggX8_cry_X8_in
theorem dX8_cry_0 : decode cX8_cry 0 = .ok (.iload_n 1, 1) := by decide +kernel
theorem dX8_cry_1 : decode cX8_cry 1 = .ok (.i2l, 1) := by decide +kernel
theorem dX8_cry_2 : decode cX8_cry 2 = .ok (.lconst 0, 1) := by decide +kernel
theorem dX8_cry_3 : decode cX8_cry 3 = .ok (.aload_n 0, 1) := by decide +kernel
theorem dX8_cry_4 : decode cX8_cry 4 = .ok (.invokevirtual 211, 3) := by decide +kernel
theorem dX8_cry_7 : decode cX8_cry 7 = .ok (.iconst 1, 1) := by decide +kernel
theorem dX8_cry_8 : decode cX8_cry 8 = .ok (.isub, 1) := by decide +kernel
theorem dX8_cry_9 : decode cX8_cry 9 = .ok (.i2l, 1) := by decide +kernel
theorem dX8_cry_10 : decode cX8_cry 10 = .ok (.invokestatic 77, 3) := by decide +kernel
theorem dX8_cry_13 : decode cX8_cry 13 = .ok (.ifCond .ne 6, 3) := by decide +kernel
theorem dX8_cry_16 : decode cX8_cry 16 = .ok (.ldc 123, 2) := by decide +kernel
theorem dX8_cry_18 : decode cX8_cry 18 = .ok (.ireturn, 1) := by decide +kernel
theorem dX8_cry_19 : decode cX8_cry 19 = .ok (.iload_n 2, 1) := by decide +kernel
theorem dX8_cry_20 : decode cX8_cry 20 = .ok (.tableswitch 49 0 2 #[28, 35, 42], 28) := by decide +kernel
theorem dX8_cry_48 : decode cX8_cry 48 = .ok (.aload_n 0, 1) := by decide +kernel
theorem dX8_cry_49 : decode cX8_cry 49 = .ok (.getfield 35, 3) := by decide +kernel
theorem dX8_cry_52 : decode cX8_cry 52 = .ok (.iload_n 1, 1) := by decide +kernel
theorem dX8_cry_53 : decode cX8_cry 53 = .ok (.iaload, 1) := by decide +kernel
theorem dX8_cry_54 : decode cX8_cry 54 = .ok (.ireturn, 1) := by decide +kernel
theorem dX8_cry_55 : decode cX8_cry 55 = .ok (.aload_n 0, 1) := by decide +kernel
theorem dX8_cry_56 : decode cX8_cry 56 = .ok (.getfield 38, 3) := by decide +kernel
theorem dX8_cry_59 : decode cX8_cry 59 = .ok (.iload_n 1, 1) := by decide +kernel
theorem dX8_cry_60 : decode cX8_cry 60 = .ok (.iaload, 1) := by decide +kernel
theorem dX8_cry_61 : decode cX8_cry 61 = .ok (.ireturn, 1) := by decide +kernel
theorem dX8_cry_62 : decode cX8_cry 62 = .ok (.aload_n 0, 1) := by decide +kernel
theorem dX8_cry_63 : decode cX8_cry 63 = .ok (.getfield 41, 3) := by decide +kernel
theorem dX8_cry_66 : decode cX8_cry 66 = .ok (.iload_n 1, 1) := by decide +kernel
theorem dX8_cry_67 : decode cX8_cry 67 = .ok (.iaload, 1) := by decide +kernel
theorem dX8_cry_68 : decode cX8_cry 68 = .ok (.ireturn, 1) := by decide +kernel
theorem dX8_cry_69 : decode cX8_cry 69 = .ok (.ldc 127, 2) := by decide +kernel
theorem dX8_cry_71 : decode cX8_cry 71 = .ok (.ireturn, 1) := by decide +kernel
set_option maxRecDepth 20000 in
theorem ggX8_ring_X8_in : GoodIn wsX8_ring wsX8_in := goodIn_r _ [10] (by decide +kernel) (by decide +kernel)
set_option maxRecDepth 20000 in
theorem gX8_ring_X8_in : GoodIn wsX8_ring (va_wsS RX8 77 yX8_in wsX8_in) := goodIn_app (goodIn_of _ (by decide +kernel)) ggX8_ring_X8_in
theorem dX8_ring_0 : decode cX8_ring 0 = .ok (.iload_n 2, 1) := by decide +kernel
theorem dX8_ring_1 : decode cX8_ring 1 = .ok (.i2l, 1) := by decide +kernel
theorem dX8_ring_2 : decode cX8_ring 2 = .ok (.lconst 0, 1) := by decide +kernel
theorem dX8_ring_3 : decode cX8_ring 3 = .ok (.ldc2_w 223, 3) := by decide +kernel
theorem dX8_ring_6 : decode cX8_ring 6 = .ok (.invokestatic 77, 3) := by decide +kernel
theorem dX8_ring_9 : decode cX8_ring 9 = .ok (.ifCond .ne 6, 3) := by decide +kernel
theorem dX8_ring_12 : decode cX8_ring 12 = .ok (.ldc 127, 2) := by decide +kernel
theorem dX8_ring_14 : decode cX8_ring 14 = .ok (.ireturn, 1) := by decide +kernel
theorem dX8_ring_15 : decode cX8_ring 15 = .ok (.iload_n 1, 1) := by decide +kernel
theorem dX8_ring_16 : decode cX8_ring 16 = .ok (.i2l, 1) := by decide +kernel
theorem dX8_ring_17 : decode cX8_ring 17 = .ok (.lconst 0, 1) := by decide +kernel
theorem dX8_ring_18 : decode cX8_ring 18 = .ok (.aload_n 0, 1) := by decide +kernel
theorem dX8_ring_19 : decode cX8_ring 19 = .ok (.getfield 105, 3) := by decide +kernel
theorem dX8_ring_22 : decode cX8_ring 22 = .ok (.iconst 1, 1) := by decide +kernel
theorem dX8_ring_23 : decode cX8_ring 23 = .ok (.isub, 1) := by decide +kernel
theorem dX8_ring_24 : decode cX8_ring 24 = .ok (.i2l, 1) := by decide +kernel
theorem dX8_ring_25 : decode cX8_ring 25 = .ok (.invokestatic 77, 3) := by decide +kernel
theorem dX8_ring_28 : decode cX8_ring 28 = .ok (.ifCond .ne 5, 3) := by decide +kernel
theorem dX8_ring_31 : decode cX8_ring 31 = .ok (.iconst (-1), 1) := by decide +kernel
theorem dX8_ring_32 : decode cX8_ring 32 = .ok (.ireturn, 1) := by decide +kernel
theorem dX8_ring_33 : decode cX8_ring 33 = .ok (.iload_n 2, 1) := by decide +kernel
theorem dX8_ring_34 : decode cX8_ring 34 = .ok (.ifCond .ne 12, 3) := by decide +kernel
theorem dX8_ring_37 : decode cX8_ring 37 = .ok (.aload_n 0, 1) := by decide +kernel
theorem dX8_ring_38 : decode cX8_ring 38 = .ok (.getfield 44, 3) := by decide +kernel
theorem dX8_ring_41 : decode cX8_ring 41 = .ok (.iload_n 1, 1) := by decide +kernel
theorem dX8_ring_42 : decode cX8_ring 42 = .ok (.iaload, 1) := by decide +kernel
theorem dX8_ring_43 : decode cX8_ring 43 = .ok (.goto 23, 3) := by decide +kernel
theorem dX8_ring_46 : decode cX8_ring 46 = .ok (.iload_n 2, 1) := by decide +kernel
theorem dX8_ring_47 : decode cX8_ring 47 = .ok (.iconst 1, 1) := by decide +kernel
theorem dX8_ring_48 : decode cX8_ring 48 = .ok (.if_icmp .ne 12, 3) := by decide +kernel
theorem dX8_ring_51 : decode cX8_ring 51 = .ok (.aload_n 0, 1) := by decide +kernel
theorem dX8_ring_52 : decode cX8_ring 52 = .ok (.getfield 47, 3) := by decide +kernel
theorem dX8_ring_55 : decode cX8_ring 55 = .ok (.iload_n 1, 1) := by decide +kernel
theorem dX8_ring_56 : decode cX8_ring 56 = .ok (.iaload, 1) := by decide +kernel
theorem dX8_ring_57 : decode cX8_ring 57 = .ok (.goto 9, 3) := by decide +kernel
theorem dX8_ring_60 : decode cX8_ring 60 = .ok (.aload_n 0, 1) := by decide +kernel
theorem dX8_ring_61 : decode cX8_ring 61 = .ok (.getfield 50, 3) := by decide +kernel
theorem dX8_ring_64 : decode cX8_ring 64 = .ok (.iload_n 1, 1) := by decide +kernel
theorem dX8_ring_65 : decode cX8_ring 65 = .ok (.iaload, 1) := by decide +kernel
theorem dX8_ring_66 : decode cX8_ring 66 = .ok (.ireturn, 1) := by decide +kernel
set_option maxRecDepth 20000 in
theorem ggX8_areWell_X8_in : GoodIn wsX8_areWell wsX8_in := goodIn_r _ [5] (by decide +kernel) (by decide +kernel)
set_option maxRecDepth 20000 in
theorem gX8_areWell_X8_in : GoodIn wsX8_areWell (va_wsS RX8 77 yX8_in wsX8_in) := goodIn_app (goodIn_of _ (by decide +kernel)) ggX8_areWell_X8_in
set_option maxRecDepth 20000 in
theorem ggX8_areWell_X8_isByte : GoodIn wsX8_areWell wsX8_isByte := goodIn_r _ [8, 9, 2, 3, 4, 5] (by decide +kernel) (by decide +kernel)
set_option maxRecDepth 20000 in
theorem gX8_areWell_X8_isByte : GoodIn wsX8_areWell (va_wsS RX8 124 yX8_isByte wsX8_isByte) := goodIn_app (goodIn_of _ (by decide +kernel)) ggX8_areWell_X8_isByte
theorem dX8_areWell_0 : decode cX8_areWell 0 = .ok (.iload_n 0, 1) := by decide +kernel
theorem dX8_areWell_1 : decode cX8_areWell 1 = .ok (.i2l, 1) := by decide +kernel
theorem dX8_areWell_2 : decode cX8_areWell 2 = .ok (.lconst 0, 1) := by decide +kernel
theorem dX8_areWell_3 : decode cX8_areWell 3 = .ok (.ldc2_w 175, 3) := by decide +kernel
theorem dX8_areWell_6 : decode cX8_areWell 6 = .ok (.invokestatic 77, 3) := by decide +kernel
theorem dX8_areWell_9 : decode cX8_areWell 9 = .ok (.ifCond .eq 36, 3) := by decide +kernel
theorem dX8_areWell_12 : decode cX8_areWell 12 = .ok (.iload_n 1, 1) := by decide +kernel
theorem dX8_areWell_13 : decode cX8_areWell 13 = .ok (.invokestatic 124, 3) := by decide +kernel
theorem dX8_areWell_16 : decode cX8_areWell 16 = .ok (.ifCond .eq 29, 3) := by decide +kernel
theorem dX8_areWell_19 : decode cX8_areWell 19 = .ok (.iload_n 2, 1) := by decide +kernel
theorem dX8_areWell_20 : decode cX8_areWell 20 = .ok (.invokestatic 124, 3) := by decide +kernel
theorem dX8_areWell_23 : decode cX8_areWell 23 = .ok (.ifCond .eq 22, 3) := by decide +kernel
theorem dX8_areWell_26 : decode cX8_areWell 26 = .ok (.iload_n 3, 1) := by decide +kernel
theorem dX8_areWell_27 : decode cX8_areWell 27 = .ok (.invokestatic 124, 3) := by decide +kernel
theorem dX8_areWell_30 : decode cX8_areWell 30 = .ok (.ifCond .eq 15, 3) := by decide +kernel
theorem dX8_areWell_33 : decode cX8_areWell 33 = .ok (.iload 4, 2) := by decide +kernel
theorem dX8_areWell_35 : decode cX8_areWell 35 = .ok (.invokestatic 124, 3) := by decide +kernel
theorem dX8_areWell_38 : decode cX8_areWell 38 = .ok (.ifCond .eq 7, 3) := by decide +kernel
theorem dX8_areWell_41 : decode cX8_areWell 41 = .ok (.iconst 1, 1) := by decide +kernel
theorem dX8_areWell_42 : decode cX8_areWell 42 = .ok (.goto 4, 3) := by decide +kernel
theorem dX8_areWell_45 : decode cX8_areWell 45 = .ok (.iconst 0, 1) := by decide +kernel
theorem dX8_areWell_46 : decode cX8_areWell 46 = .ok (.ireturn, 1) := by decide +kernel
set_option maxRecDepth 20000 in
theorem ggX8_shadow_X8_areWell : GoodIn wsX8_shadow wsX8_areWell := goodIn_r _ [5, 6, 7, 8, 4, 9, 10, 11, 12, 13] (by decide +kernel) (by decide +kernel)
set_option maxRecDepth 20000 in
theorem gX8_shadow_X8_areWell : GoodIn wsX8_shadow (va_wsS RX8 225 yX8_areWell wsX8_areWell) := goodIn_app (goodIn_of _ (by decide +kernel)) ggX8_shadow_X8_areWell
set_option maxRecDepth 20000 in
theorem ggX8_shadow_X8_shadowBy : GoodIn wsX8_shadow wsX8_shadowBy := goodIn_r _ [16] (by decide +kernel) (by decide +kernel)
set_option maxRecDepth 20000 in
theorem gX8_shadow_X8_shadowBy : GoodIn wsX8_shadow (va_wsS RX8 165 yX8_shadowBy wsX8_shadowBy) := goodIn_app (goodIn_of _ (by decide +kernel)) ggX8_shadow_X8_shadowBy
theorem dX8_shadow_0 : decode cX8_shadow 0 = .ok (.iload_n 1, 1) := by decide +kernel
theorem dX8_shadow_1 : decode cX8_shadow 1 = .ok (.iload_n 2, 1) := by decide +kernel
theorem dX8_shadow_2 : decode cX8_shadow 2 = .ok (.iload_n 3, 1) := by decide +kernel
theorem dX8_shadow_3 : decode cX8_shadow 3 = .ok (.iload 4, 2) := by decide +kernel
theorem dX8_shadow_5 : decode cX8_shadow 5 = .ok (.iload 5, 2) := by decide +kernel
theorem dX8_shadow_7 : decode cX8_shadow 7 = .ok (.invokestatic 225, 3) := by decide +kernel
theorem dX8_shadow_10 : decode cX8_shadow 10 = .ok (.ifCond .eq 16, 3) := by decide +kernel
theorem dX8_shadow_13 : decode cX8_shadow 13 = .ok (.iload_n 1, 1) := by decide +kernel
theorem dX8_shadow_14 : decode cX8_shadow 14 = .ok (.iload_n 2, 1) := by decide +kernel
theorem dX8_shadow_15 : decode cX8_shadow 15 = .ok (.iload_n 3, 1) := by decide +kernel
theorem dX8_shadow_16 : decode cX8_shadow 16 = .ok (.iload 4, 2) := by decide +kernel
theorem dX8_shadow_18 : decode cX8_shadow 18 = .ok (.iload 5, 2) := by decide +kernel
theorem dX8_shadow_20 : decode cX8_shadow 20 = .ok (.invokestatic 165, 3) := by decide +kernel
theorem dX8_shadow_23 : decode cX8_shadow 23 = .ok (.goto 5, 3) := by decide +kernel
theorem dX8_shadow_26 : decode cX8_shadow 26 = .ok (.ldc 127, 2) := by decide +kernel
theorem dX8_shadow_28 : decode cX8_shadow 28 = .ok (.ireturn, 1) := by decide +kernel
set_option maxRecDepth 20000 in
theorem ggX8_exact_X8_areWell : GoodIn wsX8_exact wsX8_areWell := goodIn_r _ [5, 6, 7, 8, 4, 9, 10, 11, 12, 13] (by decide +kernel) (by decide +kernel)
set_option maxRecDepth 20000 in
theorem gX8_exact_X8_areWell : GoodIn wsX8_exact (va_wsS RX8 225 yX8_areWell wsX8_areWell) := goodIn_app (goodIn_of _ (by decide +kernel)) ggX8_exact_X8_areWell
set_option maxRecDepth 20000 in
theorem ggX8_exact_X8_exactBy : GoodIn wsX8_exact wsX8_exactBy := goodIn_r _ [16, 17, 18, 4, 19] (by decide +kernel) (by decide +kernel)
set_option maxRecDepth 20000 in
theorem gX8_exact_X8_exactBy : GoodIn wsX8_exact (va_wsS RX8 169 yX8_exactBy wsX8_exactBy) := goodIn_app (goodIn_of _ (by decide +kernel)) ggX8_exact_X8_exactBy
theorem dX8_exact_0 : decode cX8_exact 0 = .ok (.iload_n 1, 1) := by decide +kernel
theorem dX8_exact_1 : decode cX8_exact 1 = .ok (.iload_n 2, 1) := by decide +kernel
theorem dX8_exact_2 : decode cX8_exact 2 = .ok (.iload_n 3, 1) := by decide +kernel
theorem dX8_exact_3 : decode cX8_exact 3 = .ok (.iload 4, 2) := by decide +kernel
theorem dX8_exact_5 : decode cX8_exact 5 = .ok (.iload 5, 2) := by decide +kernel
theorem dX8_exact_7 : decode cX8_exact 7 = .ok (.invokestatic 225, 3) := by decide +kernel
theorem dX8_exact_10 : decode cX8_exact 10 = .ok (.ifCond .eq 16, 3) := by decide +kernel
theorem dX8_exact_13 : decode cX8_exact 13 = .ok (.iload_n 1, 1) := by decide +kernel
theorem dX8_exact_14 : decode cX8_exact 14 = .ok (.iload_n 2, 1) := by decide +kernel
theorem dX8_exact_15 : decode cX8_exact 15 = .ok (.iload_n 3, 1) := by decide +kernel
theorem dX8_exact_16 : decode cX8_exact 16 = .ok (.iload 4, 2) := by decide +kernel
theorem dX8_exact_18 : decode cX8_exact 18 = .ok (.iload 5, 2) := by decide +kernel
theorem dX8_exact_20 : decode cX8_exact 20 = .ok (.invokestatic 169, 3) := by decide +kernel
theorem dX8_exact_23 : decode cX8_exact 23 = .ok (.goto 5, 3) := by decide +kernel
theorem dX8_exact_26 : decode cX8_exact 26 = .ok (.ldc 127, 2) := by decide +kernel
theorem dX8_exact_28 : decode cX8_exact 28 = .ok (.ireturn, 1) := by decide +kernel
set_option maxRecDepth 20000 in
theorem ggX8_keep_X8_in : GoodIn wsX8_keep wsX8_in := goodIn_r _ [12] (by decide +kernel) (by decide +kernel)
set_option maxRecDepth 20000 in
theorem gX8_keep_X8_in : GoodIn wsX8_keep (va_wsS RX8 77 yX8_in wsX8_in) := goodIn_app (goodIn_of _ (by decide +kernel)) ggX8_keep_X8_in
theorem dX8_keep_0 : decode cX8_keep 0 = .ok (.iload_n 1, 1) := by decide +kernel
theorem dX8_keep_1 : decode cX8_keep 1 = .ok (.i2l, 1) := by decide +kernel
theorem dX8_keep_2 : decode cX8_keep 2 = .ok (.lconst 0, 1) := by decide +kernel
theorem dX8_keep_3 : decode cX8_keep 3 = .ok (.lconst 1, 1) := by decide +kernel
theorem dX8_keep_4 : decode cX8_keep 4 = .ok (.invokestatic 77, 3) := by decide +kernel
theorem dX8_keep_7 : decode cX8_keep 7 = .ok (.ifCond .ne 6, 3) := by decide +kernel
theorem dX8_keep_10 : decode cX8_keep 10 = .ok (.ldc 123, 2) := by decide +kernel
theorem dX8_keep_12 : decode cX8_keep 12 = .ok (.ireturn, 1) := by decide +kernel
theorem dX8_keep_13 : decode cX8_keep 13 = .ok (.iconst 0, 1) := by decide +kernel
theorem dX8_keep_14 : decode cX8_keep 14 = .ok (.istore_n 2, 1) := by decide +kernel
theorem dX8_keep_15 : decode cX8_keep 15 = .ok (.iload_n 2, 1) := by decide +kernel
theorem dX8_keep_16 : decode cX8_keep 16 = .ok (.bipush 40, 2) := by decide +kernel
theorem dX8_keep_18 : decode cX8_keep 18 = .ok (.if_icmp .ge 69, 3) := by decide +kernel
theorem dX8_keep_21 : decode cX8_keep 21 = .ok (.aload_n 0, 1) := by decide +kernel
theorem dX8_keep_22 : decode cX8_keep 22 = .ok (.getfield 65, 3) := by decide +kernel
theorem dX8_keep_25 : decode cX8_keep 25 = .ok (.sipush 152, 3) := by decide +kernel
theorem dX8_keep_28 : decode cX8_keep 28 = .ok (.iload_n 1, 1) := by decide +kernel
theorem dX8_keep_29 : decode cX8_keep 29 = .ok (.imul, 1) := by decide +kernel
theorem dX8_keep_30 : decode cX8_keep 30 = .ok (.iload_n 2, 1) := by decide +kernel
theorem dX8_keep_31 : decode cX8_keep 31 = .ok (.iadd, 1) := by decide +kernel
theorem dX8_keep_32 : decode cX8_keep 32 = .ok (.aload_n 0, 1) := by decide +kernel
theorem dX8_keep_33 : decode cX8_keep 33 = .ok (.getfield 7, 3) := by decide +kernel
theorem dX8_keep_36 : decode cX8_keep 36 = .ok (.iload_n 2, 1) := by decide +kernel
theorem dX8_keep_37 : decode cX8_keep 37 = .ok (.iaload, 1) := by decide +kernel
theorem dX8_keep_38 : decode cX8_keep 38 = .ok (.iastore, 1) := by decide +kernel
theorem dX8_keep_39 : decode cX8_keep 39 = .ok (.aload_n 0, 1) := by decide +kernel
theorem dX8_keep_40 : decode cX8_keep 40 = .ok (.getfield 65, 3) := by decide +kernel
theorem dX8_keep_43 : decode cX8_keep 43 = .ok (.sipush 152, 3) := by decide +kernel
theorem dX8_keep_46 : decode cX8_keep 46 = .ok (.iload_n 1, 1) := by decide +kernel
theorem dX8_keep_47 : decode cX8_keep 47 = .ok (.imul, 1) := by decide +kernel
theorem dX8_keep_48 : decode cX8_keep 48 = .ok (.bipush 40, 2) := by decide +kernel
theorem dX8_keep_50 : decode cX8_keep 50 = .ok (.iadd, 1) := by decide +kernel
theorem dX8_keep_51 : decode cX8_keep 51 = .ok (.iload_n 2, 1) := by decide +kernel
theorem dX8_keep_52 : decode cX8_keep 52 = .ok (.iadd, 1) := by decide +kernel
theorem dX8_keep_53 : decode cX8_keep 53 = .ok (.aload_n 0, 1) := by decide +kernel
theorem dX8_keep_54 : decode cX8_keep 54 = .ok (.getfield 13, 3) := by decide +kernel
theorem dX8_keep_57 : decode cX8_keep 57 = .ok (.iload_n 2, 1) := by decide +kernel
theorem dX8_keep_58 : decode cX8_keep 58 = .ok (.iaload, 1) := by decide +kernel
theorem dX8_keep_59 : decode cX8_keep 59 = .ok (.iastore, 1) := by decide +kernel
theorem dX8_keep_60 : decode cX8_keep 60 = .ok (.aload_n 0, 1) := by decide +kernel
theorem dX8_keep_61 : decode cX8_keep 61 = .ok (.getfield 65, 3) := by decide +kernel
theorem dX8_keep_64 : decode cX8_keep 64 = .ok (.sipush 152, 3) := by decide +kernel
theorem dX8_keep_67 : decode cX8_keep 67 = .ok (.iload_n 1, 1) := by decide +kernel
theorem dX8_keep_68 : decode cX8_keep 68 = .ok (.imul, 1) := by decide +kernel
theorem dX8_keep_69 : decode cX8_keep 69 = .ok (.bipush 80, 2) := by decide +kernel
theorem dX8_keep_71 : decode cX8_keep 71 = .ok (.iadd, 1) := by decide +kernel
theorem dX8_keep_72 : decode cX8_keep 72 = .ok (.iload_n 2, 1) := by decide +kernel
theorem dX8_keep_73 : decode cX8_keep 73 = .ok (.iadd, 1) := by decide +kernel
theorem dX8_keep_74 : decode cX8_keep 74 = .ok (.aload_n 0, 1) := by decide +kernel
theorem dX8_keep_75 : decode cX8_keep 75 = .ok (.getfield 16, 3) := by decide +kernel
theorem dX8_keep_78 : decode cX8_keep 78 = .ok (.iload_n 2, 1) := by decide +kernel
theorem dX8_keep_79 : decode cX8_keep 79 = .ok (.iaload, 1) := by decide +kernel
theorem dX8_keep_80 : decode cX8_keep 80 = .ok (.iastore, 1) := by decide +kernel
theorem dX8_keep_81 : decode cX8_keep 81 = .ok (.iinc 2 1, 3) := by decide +kernel
theorem dX8_keep_84 : decode cX8_keep 84 = .ok (.goto (-69), 3) := by decide +kernel
theorem dX8_keep_87 : decode cX8_keep 87 = .ok (.iconst 0, 1) := by decide +kernel
theorem dX8_keep_88 : decode cX8_keep 88 = .ok (.istore_n 2, 1) := by decide +kernel
theorem dX8_keep_89 : decode cX8_keep 89 = .ok (.iload_n 2, 1) := by decide +kernel
theorem dX8_keep_90 : decode cX8_keep 90 = .ok (.bipush 32, 2) := by decide +kernel
theorem dX8_keep_92 : decode cX8_keep 92 = .ok (.if_icmp .ge 38, 3) := by decide +kernel
theorem dX8_keep_95 : decode cX8_keep 95 = .ok (.aload_n 0, 1) := by decide +kernel
theorem dX8_keep_96 : decode cX8_keep 96 = .ok (.getfield 65, 3) := by decide +kernel
theorem dX8_keep_99 : decode cX8_keep 99 = .ok (.sipush 152, 3) := by decide +kernel
theorem dX8_keep_102 : decode cX8_keep 102 = .ok (.iload_n 1, 1) := by decide +kernel
theorem dX8_keep_103 : decode cX8_keep 103 = .ok (.imul, 1) := by decide +kernel
theorem dX8_keep_104 : decode cX8_keep 104 = .ok (.bipush 120, 2) := by decide +kernel
theorem dX8_keep_106 : decode cX8_keep 106 = .ok (.iadd, 1) := by decide +kernel
theorem dX8_keep_107 : decode cX8_keep 107 = .ok (.iload_n 2, 1) := by decide +kernel
theorem dX8_keep_108 : decode cX8_keep 108 = .ok (.iadd, 1) := by decide +kernel
theorem dX8_keep_109 : decode cX8_keep 109 = .ok (.aload_n 0, 1) := by decide +kernel
theorem dX8_keep_110 : decode cX8_keep 110 = .ok (.getfield 19, 3) := by decide +kernel
theorem dX8_keep_113 : decode cX8_keep 113 = .ok (.iload_n 2, 1) := by decide +kernel
theorem dX8_keep_114 : decode cX8_keep 114 = .ok (.baload, 1) := by decide +kernel
theorem dX8_keep_115 : decode cX8_keep 115 = .ok (.ifCond .eq 7, 3) := by decide +kernel
theorem dX8_keep_118 : decode cX8_keep 118 = .ok (.iconst 1, 1) := by decide +kernel
theorem dX8_keep_119 : decode cX8_keep 119 = .ok (.goto 4, 3) := by decide +kernel
theorem dX8_keep_122 : decode cX8_keep 122 = .ok (.iconst 0, 1) := by decide +kernel
theorem dX8_keep_123 : decode cX8_keep 123 = .ok (.iastore, 1) := by decide +kernel
theorem dX8_keep_124 : decode cX8_keep 124 = .ok (.iinc 2 1, 3) := by decide +kernel
theorem dX8_keep_127 : decode cX8_keep 127 = .ok (.goto (-38), 3) := by decide +kernel
theorem dX8_keep_130 : decode cX8_keep 130 = .ok (.aload_n 0, 1) := by decide +kernel
theorem dX8_keep_131 : decode cX8_keep 131 = .ok (.getfield 68, 3) := by decide +kernel
theorem dX8_keep_134 : decode cX8_keep 134 = .ok (.iload_n 1, 1) := by decide +kernel
theorem dX8_keep_135 : decode cX8_keep 135 = .ok (.iconst 1, 1) := by decide +kernel
theorem dX8_keep_136 : decode cX8_keep 136 = .ok (.bastore, 1) := by decide +kernel
theorem dX8_keep_137 : decode cX8_keep 137 = .ok (.aload_n 0, 1) := by decide +kernel
theorem dX8_keep_138 : decode cX8_keep 138 = .ok (.iconst 0, 1) := by decide +kernel
theorem dX8_keep_139 : decode cX8_keep 139 = .ok (.putfield 108, 3) := by decide +kernel
theorem dX8_keep_142 : decode cX8_keep 142 = .ok (.iconst 1, 1) := by decide +kernel
theorem dX8_keep_143 : decode cX8_keep 143 = .ok (.ireturn, 1) := by decide +kernel
set_option maxRecDepth 20000 in
theorem ggX8_goBack_X8_in : GoodIn wsX8_goBack wsX8_in := goodIn_r _ [13] (by decide +kernel) (by decide +kernel)
set_option maxRecDepth 20000 in
theorem gX8_goBack_X8_in : GoodIn wsX8_goBack (va_wsS RX8 77 yX8_in wsX8_in) := goodIn_app (goodIn_of _ (by decide +kernel)) ggX8_goBack_X8_in
theorem dX8_goBack_0 : decode cX8_goBack 0 = .ok (.iload_n 1, 1) := by decide +kernel
theorem dX8_goBack_1 : decode cX8_goBack 1 = .ok (.i2l, 1) := by decide +kernel
theorem dX8_goBack_2 : decode cX8_goBack 2 = .ok (.lconst 0, 1) := by decide +kernel
theorem dX8_goBack_3 : decode cX8_goBack 3 = .ok (.lconst 1, 1) := by decide +kernel
theorem dX8_goBack_4 : decode cX8_goBack 4 = .ok (.invokestatic 77, 3) := by decide +kernel
theorem dX8_goBack_7 : decode cX8_goBack 7 = .ok (.ifCond .ne 6, 3) := by decide +kernel
theorem dX8_goBack_10 : decode cX8_goBack 10 = .ok (.ldc 123, 2) := by decide +kernel
theorem dX8_goBack_12 : decode cX8_goBack 12 = .ok (.ireturn, 1) := by decide +kernel
theorem dX8_goBack_13 : decode cX8_goBack 13 = .ok (.aload_n 0, 1) := by decide +kernel
theorem dX8_goBack_14 : decode cX8_goBack 14 = .ok (.getfield 68, 3) := by decide +kernel
theorem dX8_goBack_17 : decode cX8_goBack 17 = .ok (.iload_n 1, 1) := by decide +kernel
theorem dX8_goBack_18 : decode cX8_goBack 18 = .ok (.baload, 1) := by decide +kernel
theorem dX8_goBack_19 : decode cX8_goBack 19 = .ok (.ifCond .ne 6, 3) := by decide +kernel
theorem dX8_goBack_22 : decode cX8_goBack 22 = .ok (.ldc 187, 2) := by decide +kernel
theorem dX8_goBack_24 : decode cX8_goBack 24 = .ok (.ireturn, 1) := by decide +kernel
theorem dX8_goBack_25 : decode cX8_goBack 25 = .ok (.iconst 0, 1) := by decide +kernel
theorem dX8_goBack_26 : decode cX8_goBack 26 = .ok (.istore_n 2, 1) := by decide +kernel
theorem dX8_goBack_27 : decode cX8_goBack 27 = .ok (.iload_n 2, 1) := by decide +kernel
theorem dX8_goBack_28 : decode cX8_goBack 28 = .ok (.bipush 40, 2) := by decide +kernel
theorem dX8_goBack_30 : decode cX8_goBack 30 = .ok (.if_icmp .ge 69, 3) := by decide +kernel
theorem dX8_goBack_33 : decode cX8_goBack 33 = .ok (.aload_n 0, 1) := by decide +kernel
theorem dX8_goBack_34 : decode cX8_goBack 34 = .ok (.getfield 7, 3) := by decide +kernel
theorem dX8_goBack_37 : decode cX8_goBack 37 = .ok (.iload_n 2, 1) := by decide +kernel
theorem dX8_goBack_38 : decode cX8_goBack 38 = .ok (.aload_n 0, 1) := by decide +kernel
theorem dX8_goBack_39 : decode cX8_goBack 39 = .ok (.getfield 65, 3) := by decide +kernel
theorem dX8_goBack_42 : decode cX8_goBack 42 = .ok (.sipush 152, 3) := by decide +kernel
theorem dX8_goBack_45 : decode cX8_goBack 45 = .ok (.iload_n 1, 1) := by decide +kernel
theorem dX8_goBack_46 : decode cX8_goBack 46 = .ok (.imul, 1) := by decide +kernel
theorem dX8_goBack_47 : decode cX8_goBack 47 = .ok (.iload_n 2, 1) := by decide +kernel
theorem dX8_goBack_48 : decode cX8_goBack 48 = .ok (.iadd, 1) := by decide +kernel
theorem dX8_goBack_49 : decode cX8_goBack 49 = .ok (.iaload, 1) := by decide +kernel
theorem dX8_goBack_50 : decode cX8_goBack 50 = .ok (.iastore, 1) := by decide +kernel
theorem dX8_goBack_51 : decode cX8_goBack 51 = .ok (.aload_n 0, 1) := by decide +kernel
theorem dX8_goBack_52 : decode cX8_goBack 52 = .ok (.getfield 13, 3) := by decide +kernel
theorem dX8_goBack_55 : decode cX8_goBack 55 = .ok (.iload_n 2, 1) := by decide +kernel
theorem dX8_goBack_56 : decode cX8_goBack 56 = .ok (.aload_n 0, 1) := by decide +kernel
theorem dX8_goBack_57 : decode cX8_goBack 57 = .ok (.getfield 65, 3) := by decide +kernel
theorem dX8_goBack_60 : decode cX8_goBack 60 = .ok (.sipush 152, 3) := by decide +kernel
theorem dX8_goBack_63 : decode cX8_goBack 63 = .ok (.iload_n 1, 1) := by decide +kernel
theorem dX8_goBack_64 : decode cX8_goBack 64 = .ok (.imul, 1) := by decide +kernel
theorem dX8_goBack_65 : decode cX8_goBack 65 = .ok (.bipush 40, 2) := by decide +kernel
theorem dX8_goBack_67 : decode cX8_goBack 67 = .ok (.iadd, 1) := by decide +kernel
theorem dX8_goBack_68 : decode cX8_goBack 68 = .ok (.iload_n 2, 1) := by decide +kernel
theorem dX8_goBack_69 : decode cX8_goBack 69 = .ok (.iadd, 1) := by decide +kernel
theorem dX8_goBack_70 : decode cX8_goBack 70 = .ok (.iaload, 1) := by decide +kernel
theorem dX8_goBack_71 : decode cX8_goBack 71 = .ok (.iastore, 1) := by decide +kernel
theorem dX8_goBack_72 : decode cX8_goBack 72 = .ok (.aload_n 0, 1) := by decide +kernel
theorem dX8_goBack_73 : decode cX8_goBack 73 = .ok (.getfield 16, 3) := by decide +kernel
theorem dX8_goBack_76 : decode cX8_goBack 76 = .ok (.iload_n 2, 1) := by decide +kernel
theorem dX8_goBack_77 : decode cX8_goBack 77 = .ok (.aload_n 0, 1) := by decide +kernel
theorem dX8_goBack_78 : decode cX8_goBack 78 = .ok (.getfield 65, 3) := by decide +kernel
theorem dX8_goBack_81 : decode cX8_goBack 81 = .ok (.sipush 152, 3) := by decide +kernel
theorem dX8_goBack_84 : decode cX8_goBack 84 = .ok (.iload_n 1, 1) := by decide +kernel
theorem dX8_goBack_85 : decode cX8_goBack 85 = .ok (.imul, 1) := by decide +kernel
theorem dX8_goBack_86 : decode cX8_goBack 86 = .ok (.bipush 80, 2) := by decide +kernel
theorem dX8_goBack_88 : decode cX8_goBack 88 = .ok (.iadd, 1) := by decide +kernel
theorem dX8_goBack_89 : decode cX8_goBack 89 = .ok (.iload_n 2, 1) := by decide +kernel
theorem dX8_goBack_90 : decode cX8_goBack 90 = .ok (.iadd, 1) := by decide +kernel
theorem dX8_goBack_91 : decode cX8_goBack 91 = .ok (.iaload, 1) := by decide +kernel
theorem dX8_goBack_92 : decode cX8_goBack 92 = .ok (.iastore, 1) := by decide +kernel
theorem dX8_goBack_93 : decode cX8_goBack 93 = .ok (.iinc 2 1, 3) := by decide +kernel
theorem dX8_goBack_96 : decode cX8_goBack 96 = .ok (.goto (-69), 3) := by decide +kernel
theorem dX8_goBack_99 : decode cX8_goBack 99 = .ok (.iconst 0, 1) := by decide +kernel
theorem dX8_goBack_100 : decode cX8_goBack 100 = .ok (.istore_n 2, 1) := by decide +kernel
theorem dX8_goBack_101 : decode cX8_goBack 101 = .ok (.iload_n 2, 1) := by decide +kernel
theorem dX8_goBack_102 : decode cX8_goBack 102 = .ok (.bipush 32, 2) := by decide +kernel
theorem dX8_goBack_104 : decode cX8_goBack 104 = .ok (.if_icmp .ge 39, 3) := by decide +kernel
theorem dX8_goBack_107 : decode cX8_goBack 107 = .ok (.aload_n 0, 1) := by decide +kernel
theorem dX8_goBack_108 : decode cX8_goBack 108 = .ok (.getfield 19, 3) := by decide +kernel
theorem dX8_goBack_111 : decode cX8_goBack 111 = .ok (.iload_n 2, 1) := by decide +kernel
theorem dX8_goBack_112 : decode cX8_goBack 112 = .ok (.aload_n 0, 1) := by decide +kernel
theorem dX8_goBack_113 : decode cX8_goBack 113 = .ok (.getfield 65, 3) := by decide +kernel
theorem dX8_goBack_116 : decode cX8_goBack 116 = .ok (.sipush 152, 3) := by decide +kernel
theorem dX8_goBack_119 : decode cX8_goBack 119 = .ok (.iload_n 1, 1) := by decide +kernel
theorem dX8_goBack_120 : decode cX8_goBack 120 = .ok (.imul, 1) := by decide +kernel
theorem dX8_goBack_121 : decode cX8_goBack 121 = .ok (.bipush 120, 2) := by decide +kernel
theorem dX8_goBack_123 : decode cX8_goBack 123 = .ok (.iadd, 1) := by decide +kernel
theorem dX8_goBack_124 : decode cX8_goBack 124 = .ok (.iload_n 2, 1) := by decide +kernel
theorem dX8_goBack_125 : decode cX8_goBack 125 = .ok (.iadd, 1) := by decide +kernel
theorem dX8_goBack_126 : decode cX8_goBack 126 = .ok (.iaload, 1) := by decide +kernel
theorem dX8_goBack_127 : decode cX8_goBack 127 = .ok (.iconst 1, 1) := by decide +kernel
theorem dX8_goBack_128 : decode cX8_goBack 128 = .ok (.if_icmp .ne 7, 3) := by decide +kernel
theorem dX8_goBack_131 : decode cX8_goBack 131 = .ok (.iconst 1, 1) := by decide +kernel
theorem dX8_goBack_132 : decode cX8_goBack 132 = .ok (.goto 4, 3) := by decide +kernel
theorem dX8_goBack_135 : decode cX8_goBack 135 = .ok (.iconst 0, 1) := by decide +kernel
theorem dX8_goBack_136 : decode cX8_goBack 136 = .ok (.bastore, 1) := by decide +kernel
theorem dX8_goBack_137 : decode cX8_goBack 137 = .ok (.iinc 2 1, 3) := by decide +kernel
theorem dX8_goBack_140 : decode cX8_goBack 140 = .ok (.goto (-39), 3) := by decide +kernel
theorem dX8_goBack_143 : decode cX8_goBack 143 = .ok (.aload_n 0, 1) := by decide +kernel
