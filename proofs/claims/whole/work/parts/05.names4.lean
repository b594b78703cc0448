theorem dX10_read_84 : decode cX10_read 84 = .ok (.aload_n 0, 1) := by decide +kernel
theorem dX10_read_85 : decode cX10_read 85 = .ok (.getfield 7, 3) := by decide +kernel
theorem dX10_read_88 : decode cX10_read 88 = .ok (.iconst 1, 1) := by decide +kernel
theorem dX10_read_89 : decode cX10_read 89 = .ok (.aload_n 0, 1) := by decide +kernel
theorem dX10_read_90 : decode cX10_read 90 = .ok (.getfield 149, 3) := by decide +kernel
theorem dX10_read_93 : decode cX10_read 93 = .ok (.iastore, 1) := by decide +kernel
theorem dX10_read_94 : decode cX10_read 94 = .ok (.aload_n 0, 1) := by decide +kernel
theorem dX10_read_95 : decode cX10_read 95 = .ok (.getfield 7, 3) := by decide +kernel
theorem dX10_read_98 : decode cX10_read 98 = .ok (.iconst 2, 1) := by decide +kernel
theorem dX10_read_99 : decode cX10_read 99 = .ok (.aload_n 0, 1) := by decide +kernel
theorem dX10_read_100 : decode cX10_read 100 = .ok (.getfield 146, 3) := by decide +kernel
theorem dX10_read_103 : decode cX10_read 103 = .ok (.iastore, 1) := by decide +kernel
theorem dX10_read_104 : decode cX10_read 104 = .ok (.iconst 0, 1) := by decide +kernel
theorem dX10_read_105 : decode cX10_read 105 = .ok (.istore_n 1, 1) := by decide +kernel
theorem dX10_read_106 : decode cX10_read 106 = .ok (.iload_n 1, 1) := by decide +kernel
theorem dX10_read_107 : decode cX10_read 107 = .ok (.bipush 16, 2) := by decide +kernel
theorem dX10_read_109 : decode cX10_read 109 = .ok (.if_icmp .ge 24, 3) := by decide +kernel
theorem dX10_read_112 : decode cX10_read 112 = .ok (.aload_n 0, 1) := by decide +kernel
theorem dX10_read_113 : decode cX10_read 113 = .ok (.getfield 7, 3) := by decide +kernel
theorem dX10_read_116 : decode cX10_read 116 = .ok (.bipush 7, 2) := by decide +kernel
theorem dX10_read_118 : decode cX10_read 118 = .ok (.iload_n 1, 1) := by decide +kernel
theorem dX10_read_119 : decode cX10_read 119 = .ok (.iadd, 1) := by decide +kernel
theorem dX10_read_120 : decode cX10_read 120 = .ok (.aload_n 0, 1) := by decide +kernel
theorem dX10_read_121 : decode cX10_read 121 = .ok (.getfield 24, 3) := by decide +kernel
theorem dX10_read_124 : decode cX10_read 124 = .ok (.iload_n 1, 1) := by decide +kernel
theorem dX10_read_125 : decode cX10_read 125 = .ok (.iaload, 1) := by decide +kernel
theorem dX10_read_126 : decode cX10_read 126 = .ok (.iastore, 1) := by decide +kernel
theorem dX10_read_127 : decode cX10_read 127 = .ok (.iinc 1 1, 3) := by decide +kernel
theorem dX10_read_130 : decode cX10_read 130 = .ok (.goto (-24), 3) := by decide +kernel
theorem dX10_read_133 : decode cX10_read 133 = .ok (.iconst 0, 1) := by decide +kernel
theorem dX10_read_134 : decode cX10_read 134 = .ok (.istore_n 1, 1) := by decide +kernel
theorem dX10_read_135 : decode cX10_read 135 = .ok (.iload_n 1, 1) := by decide +kernel
theorem dX10_read_136 : decode cX10_read 136 = .ok (.aload_n 0, 1) := by decide +kernel
theorem dX10_read_137 : decode cX10_read 137 = .ok (.getfield 149, 3) := by decide +kernel
theorem dX10_read_140 : decode cX10_read 140 = .ok (.if_icmp .ge 39, 3) := by decide +kernel
theorem dX10_read_143 : decode cX10_read 143 = .ok (.aload_n 0, 1) := by decide +kernel
theorem dX10_read_144 : decode cX10_read 144 = .ok (.getfield 7, 3) := by decide +kernel
theorem dX10_read_147 : decode cX10_read 147 = .ok (.bipush 23, 2) := by decide +kernel
theorem dX10_read_149 : decode cX10_read 149 = .ok (.iload_n 1, 1) := by decide +kernel
theorem dX10_read_150 : decode cX10_read 150 = .ok (.iadd, 1) := by decide +kernel
theorem dX10_read_151 : decode cX10_read 151 = .ok (.aload_n 0, 1) := by decide +kernel
theorem dX10_read_152 : decode cX10_read 152 = .ok (.getfield 27, 3) := by decide +kernel
theorem dX10_read_155 : decode cX10_read 155 = .ok (.iload_n 1, 1) := by decide +kernel
theorem dX10_read_156 : decode cX10_read 156 = .ok (.iaload, 1) := by decide +kernel
theorem dX10_read_157 : decode cX10_read 157 = .ok (.iastore, 1) := by decide +kernel
theorem dX10_read_158 : decode cX10_read 158 = .ok (.aload_n 0, 1) := by decide +kernel
theorem dX10_read_159 : decode cX10_read 159 = .ok (.getfield 7, 3) := by decide +kernel
theorem dX10_read_162 : decode cX10_read 162 = .ok (.bipush 28, 2) := by decide +kernel
theorem dX10_read_164 : decode cX10_read 164 = .ok (.iload_n 1, 1) := by decide +kernel
theorem dX10_read_165 : decode cX10_read 165 = .ok (.iadd, 1) := by decide +kernel
theorem dX10_read_166 : decode cX10_read 166 = .ok (.aload_n 0, 1) := by decide +kernel
theorem dX10_read_167 : decode cX10_read 167 = .ok (.getfield 30, 3) := by decide +kernel
theorem dX10_read_170 : decode cX10_read 170 = .ok (.iload_n 1, 1) := by decide +kernel
theorem dX10_read_171 : decode cX10_read 171 = .ok (.iaload, 1) := by decide +kernel
theorem dX10_read_172 : decode cX10_read 172 = .ok (.iastore, 1) := by decide +kernel
theorem dX10_read_173 : decode cX10_read 173 = .ok (.iinc 1 1, 3) := by decide +kernel
theorem dX10_read_176 : decode cX10_read 176 = .ok (.goto (-41), 3) := by decide +kernel
theorem dX10_read_179 : decode cX10_read 179 = .ok (.iconst 0, 1) := by decide +kernel
theorem dX10_read_180 : decode cX10_read 180 = .ok (.istore_n 1, 1) := by decide +kernel
theorem dX10_read_181 : decode cX10_read 181 = .ok (.iload_n 1, 1) := by decide +kernel
theorem dX10_read_182 : decode cX10_read 182 = .ok (.aload_n 0, 1) := by decide +kernel
theorem dX10_read_183 : decode cX10_read 183 = .ok (.getfield 146, 3) := by decide +kernel
theorem dX10_read_186 : decode cX10_read 186 = .ok (.if_icmp .ge 69, 3) := by decide +kernel
theorem dX10_read_189 : decode cX10_read 189 = .ok (.aload_n 0, 1) := by decide +kernel
theorem dX10_read_190 : decode cX10_read 190 = .ok (.getfield 7, 3) := by decide +kernel
theorem dX10_read_193 : decode cX10_read 193 = .ok (.bipush 33, 2) := by decide +kernel
theorem dX10_read_195 : decode cX10_read 195 = .ok (.iload_n 1, 1) := by decide +kernel
theorem dX10_read_196 : decode cX10_read 196 = .ok (.iadd, 1) := by decide +kernel
theorem dX10_read_197 : decode cX10_read 197 = .ok (.aload_n 0, 1) := by decide +kernel
theorem dX10_read_198 : decode cX10_read 198 = .ok (.getfield 33, 3) := by decide +kernel
theorem dX10_read_201 : decode cX10_read 201 = .ok (.iload_n 1, 1) := by decide +kernel
theorem dX10_read_202 : decode cX10_read 202 = .ok (.iaload, 1) := by decide +kernel
theorem dX10_read_203 : decode cX10_read 203 = .ok (.iastore, 1) := by decide +kernel
theorem dX10_read_204 : decode cX10_read 204 = .ok (.aload_n 0, 1) := by decide +kernel
theorem dX10_read_205 : decode cX10_read 205 = .ok (.getfield 7, 3) := by decide +kernel
theorem dX10_read_208 : decode cX10_read 208 = .ok (.bipush 57, 2) := by decide +kernel
theorem dX10_read_210 : decode cX10_read 210 = .ok (.iload_n 1, 1) := by decide +kernel
theorem dX10_read_211 : decode cX10_read 211 = .ok (.iadd, 1) := by decide +kernel
theorem dX10_read_212 : decode cX10_read 212 = .ok (.aload_n 0, 1) := by decide +kernel
theorem dX10_read_213 : decode cX10_read 213 = .ok (.getfield 36, 3) := by decide +kernel
theorem dX10_read_216 : decode cX10_read 216 = .ok (.iload_n 1, 1) := by decide +kernel
theorem dX10_read_217 : decode cX10_read 217 = .ok (.iaload, 1) := by decide +kernel
theorem dX10_read_218 : decode cX10_read 218 = .ok (.iastore, 1) := by decide +kernel
theorem dX10_read_219 : decode cX10_read 219 = .ok (.aload_n 0, 1) := by decide +kernel
theorem dX10_read_220 : decode cX10_read 220 = .ok (.getfield 7, 3) := by decide +kernel
theorem dX10_read_223 : decode cX10_read 223 = .ok (.bipush 81, 2) := by decide +kernel
theorem dX10_read_225 : decode cX10_read 225 = .ok (.iload_n 1, 1) := by decide +kernel
theorem dX10_read_226 : decode cX10_read 226 = .ok (.iadd, 1) := by decide +kernel
theorem dX10_read_227 : decode cX10_read 227 = .ok (.aload_n 0, 1) := by decide +kernel
theorem dX10_read_228 : decode cX10_read 228 = .ok (.getfield 39, 3) := by decide +kernel
theorem dX10_read_231 : decode cX10_read 231 = .ok (.iload_n 1, 1) := by decide +kernel
theorem dX10_read_232 : decode cX10_read 232 = .ok (.iaload, 1) := by decide +kernel
theorem dX10_read_233 : decode cX10_read 233 = .ok (.iastore, 1) := by decide +kernel
theorem dX10_read_234 : decode cX10_read 234 = .ok (.aload_n 0, 1) := by decide +kernel
theorem dX10_read_235 : decode cX10_read 235 = .ok (.getfield 7, 3) := by decide +kernel
theorem dX10_read_238 : decode cX10_read 238 = .ok (.bipush 105, 2) := by decide +kernel
theorem dX10_read_240 : decode cX10_read 240 = .ok (.iload_n 1, 1) := by decide +kernel
theorem dX10_read_241 : decode cX10_read 241 = .ok (.iadd, 1) := by decide +kernel
theorem dX10_read_242 : decode cX10_read 242 = .ok (.aload_n 0, 1) := by decide +kernel
theorem dX10_read_243 : decode cX10_read 243 = .ok (.getfield 42, 3) := by decide +kernel
theorem dX10_read_246 : decode cX10_read 246 = .ok (.iload_n 1, 1) := by decide +kernel
theorem dX10_read_247 : decode cX10_read 247 = .ok (.iaload, 1) := by decide +kernel
theorem dX10_read_248 : decode cX10_read 248 = .ok (.iastore, 1) := by decide +kernel
theorem dX10_read_249 : decode cX10_read 249 = .ok (.iinc 1 1, 3) := by decide +kernel
theorem dX10_read_252 : decode cX10_read 252 = .ok (.goto (-71), 3) := by decide +kernel
theorem dX10_read_255 : decode cX10_read 255 = .ok (.aload_n 0, 1) := by decide +kernel
theorem dX10_read_256 : decode cX10_read 256 = .ok (.getfield 146, 3) := by decide +kernel
theorem dX10_read_259 : decode cX10_read 259 = .ok (.ireturn, 1) := by decide +kernel
theorem dX10_bitsIn_0 : decode cX10_bitsIn 0 = .ok (.iconst 0, 1) := by decide +kernel
theorem dX10_bitsIn_1 : decode cX10_bitsIn 1 = .ok (.istore_n 1, 1) := by decide +kernel
theorem dX10_bitsIn_2 : decode cX10_bitsIn 2 = .ok (.iconst 0, 1) := by decide +kernel
theorem dX10_bitsIn_3 : decode cX10_bitsIn 3 = .ok (.istore_n 2, 1) := by decide +kernel
theorem dX10_bitsIn_4 : decode cX10_bitsIn 4 = .ok (.iload_n 2, 1) := by decide +kernel
theorem dX10_bitsIn_5 : decode cX10_bitsIn 5 = .ok (.bipush 8, 2) := by decide +kernel
theorem dX10_bitsIn_7 : decode cX10_bitsIn 7 = .ok (.if_icmp .ge 17, 3) := by decide +kernel
theorem dX10_bitsIn_10 : decode cX10_bitsIn 10 = .ok (.iload_n 1, 1) := by decide +kernel
theorem dX10_bitsIn_11 : decode cX10_bitsIn 11 = .ok (.iload_n 0, 1) := by decide +kernel
theorem dX10_bitsIn_12 : decode cX10_bitsIn 12 = .ok (.iload_n 2, 1) := by decide +kernel
theorem dX10_bitsIn_13 : decode cX10_bitsIn 13 = .ok (.ishr, 1) := by decide +kernel
theorem dX10_bitsIn_14 : decode cX10_bitsIn 14 = .ok (.iconst 1, 1) := by decide +kernel
theorem dX10_bitsIn_15 : decode cX10_bitsIn 15 = .ok (.iand, 1) := by decide +kernel
theorem dX10_bitsIn_16 : decode cX10_bitsIn 16 = .ok (.iadd, 1) := by decide +kernel
theorem dX10_bitsIn_17 : decode cX10_bitsIn 17 = .ok (.istore_n 1, 1) := by decide +kernel
theorem dX10_bitsIn_18 : decode cX10_bitsIn 18 = .ok (.iinc 2 1, 3) := by decide +kernel
theorem dX10_bitsIn_21 : decode cX10_bitsIn 21 = .ok (.goto (-17), 3) := by decide +kernel
theorem dX10_bitsIn_24 : decode cX10_bitsIn 24 = .ok (.iload_n 1, 1) := by decide +kernel
theorem dX10_bitsIn_25 : decode cX10_bitsIn 25 = .ok (.ireturn, 1) := by decide +kernel
set_option maxRecDepth 20000 in
theorem ggX10_whyNot_X10_hasWay : GoodIn wsX10_whyNot wsX10_hasWay := goodIn_r _ [8, 1, 25, 26, 27, 28, 29, 30, 31, 32, 33, 34, 35, 36, 37, 38, 39, 40, 41, 42, 43, 44, 45, 46, 47, 48, 49, 50, 51, 52, 53, 54, 55, 56, 57] (by decide +kernel) (by decide +kernel)
set_option maxRecDepth 20000 in
theorem gX10_whyNot_X10_hasWay : GoodIn wsX10_whyNot (wsV RX10 107 RX10 yX10_hasWay wsX10_hasWay) := goodIn_app (goodIn_of _ (by decide +kernel)) ggX10_whyNot_X10_hasWay
set_option maxRecDepth 20000 in
theorem ggX10_whyNot_X10_bitsIn : GoodIn wsX10_whyNot wsX10_bitsIn := goodIn_r _ [11] (by decide +kernel) (by decide +kernel)
set_option maxRecDepth 20000 in
theorem gX10_whyNot_X10_bitsIn : GoodIn wsX10_whyNot (va_wsS RX10 161 yX10_bitsIn wsX10_bitsIn) := goodIn_app (goodIn_of _ (by decide +kernel)) ggX10_whyNot_X10_bitsIn
set_option maxRecDepth 20000 in
theorem ggX10_whyNot_X10_may : GoodIn wsX10_whyNot wsX10_may := goodIn_r _ [15, 1, 16, 17, 7, 18, 19, 20, 21, 22, 23, 24, 25, 26, 27, 28, 29, 30, 31, 32, 33, 34, 35, 36, 37, 38, 39, 40, 41, 42, 43, 44, 45, 46, 47, 48, 49, 50, 51, 52, 53, 54, 55, 56, 57] (by decide +kernel) (by decide +kernel)
set_option maxRecDepth 20000 in
theorem gX10_whyNot_X10_may : GoodIn wsX10_whyNot (wsV RX10 103 RX10 yX10_may wsX10_may) := goodIn_app (goodIn_of _ (by decide +kernel)) ggX10_whyNot_X10_may
theorem dX10_whyNot_0 : decode cX10_whyNot 0 = .ok (.iconst 0, 1) := by decide +kernel
theorem dX10_whyNot_1 : decode cX10_whyNot 1 = .ok (.istore_n 3, 1) := by decide +kernel
theorem dX10_whyNot_2 : decode cX10_whyNot 2 = .ok (.iload_n 3, 1) := by decide +kernel
theorem dX10_whyNot_3 : decode cX10_whyNot 3 = .ok (.iconst 5, 1) := by decide +kernel
theorem dX10_whyNot_4 : decode cX10_whyNot 4 = .ok (.if_icmp .ge 64, 3) := by decide +kernel
theorem dX10_whyNot_7 : decode cX10_whyNot 7 = .ok (.aload_n 0, 1) := by decide +kernel
theorem dX10_whyNot_8 : decode cX10_whyNot 8 = .ok (.getfield 7, 3) := by decide +kernel
theorem dX10_whyNot_11 : decode cX10_whyNot 11 = .ok (.bipush 105, 2) := by decide +kernel
theorem dX10_whyNot_13 : decode cX10_whyNot 13 = .ok (.iload_n 1, 1) := by decide +kernel
theorem dX10_whyNot_14 : decode cX10_whyNot 14 = .ok (.iadd, 1) := by decide +kernel
theorem dX10_whyNot_15 : decode cX10_whyNot 15 = .ok (.iaload, 1) := by decide +kernel
theorem dX10_whyNot_16 : decode cX10_whyNot 16 = .ok (.iload_n 3, 1) := by decide +kernel
theorem dX10_whyNot_17 : decode cX10_whyNot 17 = .ok (.ishr, 1) := by decide +kernel
theorem dX10_whyNot_18 : decode cX10_whyNot 18 = .ok (.iconst 1, 1) := by decide +kernel
theorem dX10_whyNot_19 : decode cX10_whyNot 19 = .ok (.iand, 1) := by decide +kernel
theorem dX10_whyNot_20 : decode cX10_whyNot 20 = .ok (.iconst 1, 1) := by decide +kernel
theorem dX10_whyNot_21 : decode cX10_whyNot 21 = .ok (.if_icmp .ne 41, 3) := by decide +kernel
theorem dX10_whyNot_24 : decode cX10_whyNot 24 = .ok (.aload_n 0, 1) := by decide +kernel
theorem dX10_whyNot_25 : decode cX10_whyNot 25 = .ok (.getfield 45, 3) := by decide +kernel
theorem dX10_whyNot_28 : decode cX10_whyNot 28 = .ok (.iload_n 3, 1) := by decide +kernel
theorem dX10_whyNot_29 : decode cX10_whyNot 29 = .ok (.iaload, 1) := by decide +kernel
theorem dX10_whyNot_30 : decode cX10_whyNot 30 = .ok (.aload_n 0, 1) := by decide +kernel
theorem dX10_whyNot_31 : decode cX10_whyNot 31 = .ok (.getfield 7, 3) := by decide +kernel
theorem dX10_whyNot_34 : decode cX10_whyNot 34 = .ok (.bipush 57, 2) := by decide +kernel
theorem dX10_whyNot_36 : decode cX10_whyNot 36 = .ok (.iload_n 1, 1) := by decide +kernel
theorem dX10_whyNot_37 : decode cX10_whyNot 37 = .ok (.iadd, 1) := by decide +kernel
theorem dX10_whyNot_38 : decode cX10_whyNot 38 = .ok (.iaload, 1) := by decide +kernel
theorem dX10_whyNot_39 : decode cX10_whyNot 39 = .ok (.if_icmp .ne 21, 3) := by decide +kernel
theorem dX10_whyNot_42 : decode cX10_whyNot 42 = .ok (.aload_n 0, 1) := by decide +kernel
theorem dX10_whyNot_43 : decode cX10_whyNot 43 = .ok (.getfield 48, 3) := by decide +kernel
theorem dX10_whyNot_46 : decode cX10_whyNot 46 = .ok (.iload_n 3, 1) := by decide +kernel
theorem dX10_whyNot_47 : decode cX10_whyNot 47 = .ok (.iaload, 1) := by decide +kernel
theorem dX10_whyNot_48 : decode cX10_whyNot 48 = .ok (.aload_n 0, 1) := by decide +kernel
theorem dX10_whyNot_49 : decode cX10_whyNot 49 = .ok (.getfield 7, 3) := by decide +kernel
theorem dX10_whyNot_52 : decode cX10_whyNot 52 = .ok (.bipush 33, 2) := by decide +kernel
theorem dX10_whyNot_54 : decode cX10_whyNot 54 = .ok (.iload_n 1, 1) := by decide +kernel
theorem dX10_whyNot_55 : decode cX10_whyNot 55 = .ok (.iadd, 1) := by decide +kernel
theorem dX10_whyNot_56 : decode cX10_whyNot 56 = .ok (.iaload, 1) := by decide +kernel
theorem dX10_whyNot_57 : decode cX10_whyNot 57 = .ok (.if_icmp .le 5, 3) := by decide +kernel
theorem dX10_whyNot_60 : decode cX10_whyNot 60 = .ok (.iconst 1, 1) := by decide +kernel
theorem dX10_whyNot_61 : decode cX10_whyNot 61 = .ok (.ireturn, 1) := by decide +kernel
theorem dX10_whyNot_62 : decode cX10_whyNot 62 = .ok (.iinc 3 1, 3) := by decide +kernel
theorem dX10_whyNot_65 : decode cX10_whyNot 65 = .ok (.goto (-63), 3) := by decide +kernel
theorem dX10_whyNot_68 : decode cX10_whyNot 68 = .ok (.aload_n 0, 1) := by decide +kernel
theorem dX10_whyNot_69 : decode cX10_whyNot 69 = .ok (.aload_n 0, 1) := by decide +kernel
theorem dX10_whyNot_70 : decode cX10_whyNot 70 = .ok (.getfield 7, 3) := by decide +kernel
theorem dX10_whyNot_73 : decode cX10_whyNot 73 = .ok (.bipush 57, 2) := by decide +kernel
theorem dX10_whyNot_75 : decode cX10_whyNot 75 = .ok (.iload_n 1, 1) := by decide +kernel
theorem dX10_whyNot_76 : decode cX10_whyNot 76 = .ok (.iadd, 1) := by decide +kernel
theorem dX10_whyNot_77 : decode cX10_whyNot 77 = .ok (.iaload, 1) := by decide +kernel
theorem dX10_whyNot_78 : decode cX10_whyNot 78 = .ok (.aload_n 0, 1) := by decide +kernel
theorem dX10_whyNot_79 : decode cX10_whyNot 79 = .ok (.getfield 7, 3) := by decide +kernel
theorem dX10_whyNot_82 : decode cX10_whyNot 82 = .ok (.bipush 81, 2) := by decide +kernel
theorem dX10_whyNot_84 : decode cX10_whyNot 84 = .ok (.iload_n 1, 1) := by decide +kernel
theorem dX10_whyNot_85 : decode cX10_whyNot 85 = .ok (.iadd, 1) := by decide +kernel
theorem dX10_whyNot_86 : decode cX10_whyNot 86 = .ok (.iaload, 1) := by decide +kernel
theorem dX10_whyNot_87 : decode cX10_whyNot 87 = .ok (.invokevirtual 107, 3) := by decide +kernel
theorem dX10_whyNot_90 : decode cX10_whyNot 90 = .ok (.ifCond .ne 7, 3) := by decide +kernel
theorem dX10_whyNot_93 : decode cX10_whyNot 93 = .ok (.iconst 2, 1) := by decide +kernel
theorem dX10_whyNot_94 : decode cX10_whyNot 94 = .ok (.goto 28, 3) := by decide +kernel
theorem dX10_whyNot_97 : decode cX10_whyNot 97 = .ok (.aload_n 0, 1) := by decide +kernel
theorem dX10_whyNot_98 : decode cX10_whyNot 98 = .ok (.iload_n 2, 1) := by decide +kernel
theorem dX10_whyNot_99 : decode cX10_whyNot 99 = .ok (.aload_n 0, 1) := by decide +kernel
theorem dX10_whyNot_100 : decode cX10_whyNot 100 = .ok (.getfield 7, 3) := by decide +kernel
theorem dX10_whyNot_103 : decode cX10_whyNot 103 = .ok (.bipush 105, 2) := by decide +kernel
theorem dX10_whyNot_105 : decode cX10_whyNot 105 = .ok (.iload_n 1, 1) := by decide +kernel
theorem dX10_whyNot_106 : decode cX10_whyNot 106 = .ok (.iadd, 1) := by decide +kernel
theorem dX10_whyNot_107 : decode cX10_whyNot 107 = .ok (.iaload, 1) := by decide +kernel
theorem dX10_whyNot_108 : decode cX10_whyNot 108 = .ok (.invokestatic 161, 3) := by decide +kernel
theorem dX10_whyNot_111 : decode cX10_whyNot 111 = .ok (.invokevirtual 103, 3) := by decide +kernel
theorem dX10_whyNot_114 : decode cX10_whyNot 114 = .ok (.ifCond .eq 7, 3) := by decide +kernel
theorem dX10_whyNot_117 : decode cX10_whyNot 117 = .ok (.iconst 0, 1) := by decide +kernel
theorem dX10_whyNot_118 : decode cX10_whyNot 118 = .ok (.goto 4, 3) := by decide +kernel
theorem dX10_whyNot_121 : decode cX10_whyNot 121 = .ok (.iconst 3, 1) := by decide +kernel
theorem dX10_whyNot_122 : decode cX10_whyNot 122 = .ok (.ireturn, 1) := by decide +kernel
set_option maxRecDepth 20000 in
theorem ggX10_judged_X10_isRule : GoodIn wsX10_judged wsX10_isRule := goodIn_r _ [7, 8, 9, 6, 10] (by decide +kernel) (by decide +kernel)
set_option maxRecDepth 20000 in
theorem gX10_judged_X10_isRule : GoodIn wsX10_judged (va_wsS RX10 100 yX10_isRule wsX10_isRule) := goodIn_app (goodIn_of _ (by decide +kernel)) ggX10_judged_X10_isRule
set_option maxRecDepth 20000 in
theorem ggX10_judged_X10_refuseAs : GoodIn wsX10_judged wsX10_refuseAs := goodIn_r _ [14, 15, 16, 17, 6, 18, 19, 41, 42, 43, 44, 45, 46, 47, 48, 49, 50, 51, 52, 53, 54, 55, 56, 57, 58, 59, 60, 61, 62, 63, 64, 65, 66, 67, 68, 69, 70, 71, 72, 73] (by decide +kernel) (by decide +kernel)
set_option maxRecDepth 20000 in
theorem gX10_judged_X10_refuseAs : GoodIn wsX10_judged (wsV RX10 164 RX10 yX10_refuseAs wsX10_refuseAs) := goodIn_app (goodIn_of _ (by decide +kernel)) ggX10_judged_X10_refuseAs
set_option maxRecDepth 20000 in
theorem ggX10_judged_X10_whyNot : GoodIn wsX10_judged wsX10_whyNot := goodIn_r _ [23, 1, 2, 3, 24, 25, 26, 6, 27, 28, 29, 30, 31, 32, 33, 34, 35, 36, 37, 38, 39, 40, 8, 9, 10, 41, 42, 43, 44, 45, 46, 47, 48, 49, 50, 51, 52, 53, 54, 55, 56, 57, 58, 59, 60, 61, 62, 63, 64, 65, 66, 67, 68, 69, 70, 71, 72, 73] (by decide +kernel) (by decide +kernel)
set_option maxRecDepth 20000 in
theorem gX10_judged_X10_whyNot : GoodIn wsX10_judged (wsV RX10 167 RX10 yX10_whyNot wsX10_whyNot) := goodIn_app (goodIn_of _ (by decide +kernel)) ggX10_judged_X10_whyNot
theorem dX10_judged_0 : decode cX10_judged 0 = .ok (.iload_n 1, 1) := by decide +kernel
theorem dX10_judged_1 : decode cX10_judged 1 = .ok (.invokestatic 100, 3) := by decide +kernel
theorem dX10_judged_4 : decode cX10_judged 4 = .ok (.ifCond .ne 12, 3) := by decide +kernel
theorem dX10_judged_7 : decode cX10_judged 7 = .ok (.aload_n 0, 1) := by decide +kernel
theorem dX10_judged_8 : decode cX10_judged 8 = .ok (.bipush (-2), 2) := by decide +kernel
theorem dX10_judged_10 : decode cX10_judged 10 = .ok (.bipush (-10), 2) := by decide +kernel
theorem dX10_judged_12 : decode cX10_judged 12 = .ok (.invokevirtual 164, 3) := by decide +kernel
theorem dX10_judged_15 : decode cX10_judged 15 = .ok (.ireturn, 1) := by decide +kernel
theorem dX10_judged_16 : decode cX10_judged 16 = .ok (.iconst 0, 1) := by decide +kernel
theorem dX10_judged_17 : decode cX10_judged 17 = .ok (.istore_n 2, 1) := by decide +kernel
theorem dX10_judged_18 : decode cX10_judged 18 = .ok (.iload_n 2, 1) := by decide +kernel
theorem dX10_judged_19 : decode cX10_judged 19 = .ok (.aload_n 0, 1) := by decide +kernel
theorem dX10_judged_20 : decode cX10_judged 20 = .ok (.getfield 7, 3) := by decide +kernel
theorem dX10_judged_23 : decode cX10_judged 23 = .ok (.iconst 1, 1) := by decide +kernel
theorem dX10_judged_24 : decode cX10_judged 24 = .ok (.iaload, 1) := by decide +kernel
theorem dX10_judged_25 : decode cX10_judged 25 = .ok (.if_icmp .ge 31, 3) := by decide +kernel
theorem dX10_judged_28 : decode cX10_judged 28 = .ok (.aload_n 0, 1) := by decide +kernel
theorem dX10_judged_29 : decode cX10_judged 29 = .ok (.getfield 45, 3) := by decide +kernel
theorem dX10_judged_32 : decode cX10_judged 32 = .ok (.iload_n 2, 1) := by decide +kernel
theorem dX10_judged_33 : decode cX10_judged 33 = .ok (.aload_n 0, 1) := by decide +kernel
theorem dX10_judged_34 : decode cX10_judged 34 = .ok (.getfield 7, 3) := by decide +kernel
theorem dX10_judged_37 : decode cX10_judged 37 = .ok (.bipush 23, 2) := by decide +kernel
theorem dX10_judged_39 : decode cX10_judged 39 = .ok (.iload_n 2, 1) := by decide +kernel
theorem dX10_judged_40 : decode cX10_judged 40 = .ok (.iadd, 1) := by decide +kernel
theorem dX10_judged_41 : decode cX10_judged 41 = .ok (.iaload, 1) := by decide +kernel
theorem dX10_judged_42 : decode cX10_judged 42 = .ok (.iastore, 1) := by decide +kernel
theorem dX10_judged_43 : decode cX10_judged 43 = .ok (.aload_n 0, 1) := by decide +kernel
theorem dX10_judged_44 : decode cX10_judged 44 = .ok (.getfield 48, 3) := by decide +kernel
theorem dX10_judged_47 : decode cX10_judged 47 = .ok (.iload_n 2, 1) := by decide +kernel
theorem dX10_judged_48 : decode cX10_judged 48 = .ok (.iconst 0, 1) := by decide +kernel
theorem dX10_judged_49 : decode cX10_judged 49 = .ok (.iastore, 1) := by decide +kernel
theorem dX10_judged_50 : decode cX10_judged 50 = .ok (.iinc 2 1, 3) := by decide +kernel
theorem dX10_judged_53 : decode cX10_judged 53 = .ok (.goto (-35), 3) := by decide +kernel
theorem dX10_judged_56 : decode cX10_judged 56 = .ok (.iconst 0, 1) := by decide +kernel
theorem dX10_judged_57 : decode cX10_judged 57 = .ok (.istore_n 2, 1) := by decide +kernel
theorem dX10_judged_58 : decode cX10_judged 58 = .ok (.iload_n 2, 1) := by decide +kernel
theorem dX10_judged_59 : decode cX10_judged 59 = .ok (.aload_n 0, 1) := by decide +kernel
theorem dX10_judged_60 : decode cX10_judged 60 = .ok (.getfield 7, 3) := by decide +kernel
theorem dX10_judged_63 : decode cX10_judged 63 = .ok (.iconst 2, 1) := by decide +kernel
theorem dX10_judged_64 : decode cX10_judged 64 = .ok (.iaload, 1) := by decide +kernel
theorem dX10_judged_65 : decode cX10_judged 65 = .ok (.if_icmp .ge 94, 3) := by decide +kernel
theorem dX10_judged_68 : decode cX10_judged 68 = .ok (.aload_n 0, 1) := by decide +kernel
theorem dX10_judged_69 : decode cX10_judged 69 = .ok (.iload_n 2, 1) := by decide +kernel
theorem dX10_judged_70 : decode cX10_judged 70 = .ok (.iload_n 1, 1) := by decide +kernel
theorem dX10_judged_71 : decode cX10_judged 71 = .ok (.invokevirtual 167, 3) := by decide +kernel
theorem dX10_judged_74 : decode cX10_judged 74 = .ok (.istore_n 3, 1) := by decide +kernel
theorem dX10_judged_75 : decode cX10_judged 75 = .ok (.iload_n 3, 1) := by decide +kernel
theorem dX10_judged_76 : decode cX10_judged 76 = .ok (.ifCond .le 10, 3) := by decide +kernel
theorem dX10_judged_79 : decode cX10_judged 79 = .ok (.bipush 10, 2) := by decide +kernel
theorem dX10_judged_81 : decode cX10_judged 81 = .ok (.iload_n 2, 1) := by decide +kernel
theorem dX10_judged_82 : decode cX10_judged 82 = .ok (.imul, 1) := by decide +kernel
theorem dX10_judged_83 : decode cX10_judged 83 = .ok (.iload_n 3, 1) := by decide +kernel
theorem dX10_judged_84 : decode cX10_judged 84 = .ok (.iadd, 1) := by decide +kernel
theorem dX10_judged_85 : decode cX10_judged 85 = .ok (.ireturn, 1) := by decide +kernel
theorem dX10_judged_86 : decode cX10_judged 86 = .ok (.iconst 0, 1) := by decide +kernel
theorem dX10_judged_87 : decode cX10_judged 87 = .ok (.istore 4, 2) := by decide +kernel
theorem dX10_judged_89 : decode cX10_judged 89 = .ok (.iload 4, 2) := by decide +kernel
theorem dX10_judged_91 : decode cX10_judged 91 = .ok (.iconst 5, 1) := by decide +kernel
theorem dX10_judged_92 : decode cX10_judged 92 = .ok (.if_icmp .ge 61, 3) := by decide +kernel
theorem dX10_judged_95 : decode cX10_judged 95 = .ok (.aload_n 0, 1) := by decide +kernel
theorem dX10_judged_96 : decode cX10_judged 96 = .ok (.getfield 7, 3) := by decide +kernel
theorem dX10_judged_99 : decode cX10_judged 99 = .ok (.bipush 105, 2) := by decide +kernel
theorem dX10_judged_101 : decode cX10_judged 101 = .ok (.iload_n 2, 1) := by decide +kernel
theorem dX10_judged_102 : decode cX10_judged 102 = .ok (.iadd, 1) := by decide +kernel
theorem dX10_judged_103 : decode cX10_judged 103 = .ok (.iaload, 1) := by decide +kernel
theorem dX10_judged_104 : decode cX10_judged 104 = .ok (.iload 4, 2) := by decide +kernel
theorem dX10_judged_106 : decode cX10_judged 106 = .ok (.ishr, 1) := by decide +kernel
theorem dX10_judged_107 : decode cX10_judged 107 = .ok (.iconst 1, 1) := by decide +kernel
theorem dX10_judged_108 : decode cX10_judged 108 = .ok (.iand, 1) := by decide +kernel
theorem dX10_judged_109 : decode cX10_judged 109 = .ok (.iconst 1, 1) := by decide +kernel
theorem dX10_judged_110 : decode cX10_judged 110 = .ok (.if_icmp .ne 37, 3) := by decide +kernel
theorem dX10_judged_113 : decode cX10_judged 113 = .ok (.aload_n 0, 1) := by decide +kernel
theorem dX10_judged_114 : decode cX10_judged 114 = .ok (.getfield 45, 3) := by decide +kernel
theorem dX10_judged_117 : decode cX10_judged 117 = .ok (.iload 4, 2) := by decide +kernel
theorem dX10_judged_119 : decode cX10_judged 119 = .ok (.aload_n 0, 1) := by decide +kernel
theorem dX10_judged_120 : decode cX10_judged 120 = .ok (.getfield 7, 3) := by decide +kernel
theorem dX10_judged_123 : decode cX10_judged 123 = .ok (.bipush 81, 2) := by decide +kernel
theorem dX10_judged_125 : decode cX10_judged 125 = .ok (.iload_n 2, 1) := by decide +kernel
theorem dX10_judged_126 : decode cX10_judged 126 = .ok (.iadd, 1) := by decide +kernel
theorem dX10_judged_127 : decode cX10_judged 127 = .ok (.iaload, 1) := by decide +kernel
theorem dX10_judged_128 : decode cX10_judged 128 = .ok (.iastore, 1) := by decide +kernel
theorem dX10_judged_129 : decode cX10_judged 129 = .ok (.aload_n 0, 1) := by decide +kernel
theorem dX10_judged_130 : decode cX10_judged 130 = .ok (.getfield 48, 3) := by decide +kernel
theorem dX10_judged_133 : decode cX10_judged 133 = .ok (.iload 4, 2) := by decide +kernel
theorem dX10_judged_135 : decode cX10_judged 135 = .ok (.aload_n 0, 1) := by decide +kernel
theorem dX10_judged_136 : decode cX10_judged 136 = .ok (.getfield 7, 3) := by decide +kernel
theorem dX10_judged_139 : decode cX10_judged 139 = .ok (.bipush 33, 2) := by decide +kernel
theorem dX10_judged_141 : decode cX10_judged 141 = .ok (.iload_n 2, 1) := by decide +kernel
theorem dX10_judged_142 : decode cX10_judged 142 = .ok (.iadd, 1) := by decide +kernel
theorem dX10_judged_143 : decode cX10_judged 143 = .ok (.iaload, 1) := by decide +kernel
theorem dX10_judged_144 : decode cX10_judged 144 = .ok (.iconst 1, 1) := by decide +kernel
theorem dX10_judged_145 : decode cX10_judged 145 = .ok (.iadd, 1) := by decide +kernel
theorem dX10_judged_146 : decode cX10_judged 146 = .ok (.iastore, 1) := by decide +kernel
theorem dX10_judged_147 : decode cX10_judged 147 = .ok (.iinc 4 1, 3) := by decide +kernel
theorem dX10_judged_150 : decode cX10_judged 150 = .ok (.goto (-61), 3) := by decide +kernel
theorem dX10_judged_153 : decode cX10_judged 153 = .ok (.iinc 2 1, 3) := by decide +kernel
theorem dX10_judged_156 : decode cX10_judged 156 = .ok (.goto (-98), 3) := by decide +kernel
theorem dX10_judged_159 : decode cX10_judged 159 = .ok (.iconst 1, 1) := by decide +kernel
theorem dX10_judged_160 : decode cX10_judged 160 = .ok (.istore_n 2, 1) := by decide +kernel
theorem dX10_judged_161 : decode cX10_judged 161 = .ok (.iconst 0, 1) := by decide +kernel
theorem dX10_judged_162 : decode cX10_judged 162 = .ok (.istore_n 3, 1) := by decide +kernel
theorem dX10_judged_163 : decode cX10_judged 163 = .ok (.iload_n 3, 1) := by decide +kernel
theorem dX10_judged_164 : decode cX10_judged 164 = .ok (.aload_n 0, 1) := by decide +kernel
theorem dX10_judged_165 : decode cX10_judged 165 = .ok (.getfield 7, 3) := by decide +kernel
theorem dX10_judged_168 : decode cX10_judged 168 = .ok (.iconst 1, 1) := by decide +kernel
theorem dX10_judged_169 : decode cX10_judged 169 = .ok (.iaload, 1) := by decide +kernel
theorem dX10_judged_170 : decode cX10_judged 170 = .ok (.if_icmp .ge 37, 3) := by decide +kernel
theorem dX10_judged_173 : decode cX10_judged 173 = .ok (.iload_n 2, 1) := by decide +kernel
theorem dX10_judged_174 : decode cX10_judged 174 = .ok (.ifCond .eq 25, 3) := by decide +kernel
theorem dX10_judged_177 : decode cX10_judged 177 = .ok (.aload_n 0, 1) := by decide +kernel
theorem dX10_judged_178 : decode cX10_judged 178 = .ok (.getfield 45, 3) := by decide +kernel
theorem dX10_judged_181 : decode cX10_judged 181 = .ok (.iload_n 3, 1) := by decide +kernel
theorem dX10_judged_182 : decode cX10_judged 182 = .ok (.iaload, 1) := by decide +kernel
theorem dX10_judged_183 : decode cX10_judged 183 = .ok (.aload_n 0, 1) := by decide +kernel
theorem dX10_judged_184 : decode cX10_judged 184 = .ok (.getfield 7, 3) := by decide +kernel
theorem dX10_judged_187 : decode cX10_judged 187 = .ok (.bipush 28, 2) := by decide +kernel
theorem dX10_judged_189 : decode cX10_judged 189 = .ok (.iload_n 3, 1) := by decide +kernel
theorem dX10_judged_190 : decode cX10_judged 190 = .ok (.iadd, 1) := by decide +kernel
theorem dX10_judged_191 : decode cX10_judged 191 = .ok (.iaload, 1) := by decide +kernel
theorem dX10_judged_192 : decode cX10_judged 192 = .ok (.if_icmp .ne 7, 3) := by decide +kernel
theorem dX10_judged_195 : decode cX10_judged 195 = .ok (.iconst 1, 1) := by decide +kernel
theorem dX10_judged_196 : decode cX10_judged 196 = .ok (.goto 4, 3) := by decide +kernel
theorem dX10_judged_199 : decode cX10_judged 199 = .ok (.iconst 0, 1) := by decide +kernel
theorem dX10_judged_200 : decode cX10_judged 200 = .ok (.istore_n 2, 1) := by decide +kernel
theorem dX10_judged_201 : decode cX10_judged 201 = .ok (.iinc 3 1, 3) := by decide +kernel
theorem dX10_judged_204 : decode cX10_judged 204 = .ok (.goto (-41), 3) := by decide +kernel
theorem dX10_judged_207 : decode cX10_judged 207 = .ok (.iload_n 2, 1) := by decide +kernel
theorem dX10_judged_208 : decode cX10_judged 208 = .ok (.ifCond .eq 7, 3) := by decide +kernel
theorem dX10_judged_211 : decode cX10_judged 211 = .ok (.iconst (-1), 1) := by decide +kernel
theorem dX10_judged_212 : decode cX10_judged 212 = .ok (.goto 5, 3) := by decide +kernel
theorem dX10_judged_215 : decode cX10_judged 215 = .ok (.bipush (-5), 2) := by decide +kernel
theorem dX10_judged_217 : decode cX10_judged 217 = .ok (.ireturn, 1) := by decide +kernel
set_option maxRecDepth 20000 in
theorem ggX10_ends_X10_isPerson : GoodIn wsX10_ends wsX10_isPerson := goodIn_r _ [6, 1, 7, 8, 5, 9, 15, 16, 17, 18, 19, 20, 21, 22, 23, 24, 25, 26, 27, 28, 29, 30, 31, 32, 33, 34, 35, 36, 37, 38, 39, 40, 41, 42, 43, 44, 45, 46, 47] (by decide +kernel) (by decide +kernel)
set_option maxRecDepth 20000 in
theorem gX10_ends_X10_isPerson : GoodIn wsX10_ends (wsV RX10 170 RX10 yX10_isPerson wsX10_isPerson) := goodIn_app (goodIn_of _ (by decide +kernel)) ggX10_ends_X10_isPerson
set_option maxRecDepth 20000 in
theorem ggX10_ends_X10_refuse : GoodIn wsX10_ends wsX10_refuse := goodIn_r _ [13, 14, 15, 16, 17, 18, 19, 20, 21, 22, 23, 24, 25, 26, 27, 28, 29, 30, 31, 32, 33, 34, 35, 36, 37, 38, 39, 40, 41, 42, 43, 44, 45, 46, 47] (by decide +kernel) (by decide +kernel)
set_option maxRecDepth 20000 in
theorem gX10_ends_X10_refuse : GoodIn wsX10_ends (wsV RX10 84 RX10 yX10_refuse wsX10_refuse) := goodIn_app (goodIn_of _ (by decide +kernel)) ggX10_ends_X10_refuse
theorem dX10_ends_0 : decode cX10_ends 0 = .ok (.aload_n 0, 1) := by decide +kernel
theorem dX10_ends_1 : decode cX10_ends 1 = .ok (.iload_n 1, 1) := by decide +kernel
theorem dX10_ends_2 : decode cX10_ends 2 = .ok (.invokevirtual 170, 3) := by decide +kernel
theorem dX10_ends_5 : decode cX10_ends 5 = .ok (.ifCond .ne 10, 3) := by decide +kernel
theorem dX10_ends_8 : decode cX10_ends 8 = .ok (.aload_n 0, 1) := by decide +kernel
theorem dX10_ends_9 : decode cX10_ends 9 = .ok (.bipush (-2), 2) := by decide +kernel
theorem dX10_ends_11 : decode cX10_ends 11 = .ok (.invokevirtual 84, 3) := by decide +kernel
theorem dX10_ends_14 : decode cX10_ends 14 = .ok (.ireturn, 1) := by decide +kernel
theorem dX10_ends_15 : decode cX10_ends 15 = .ok (.aload_n 0, 1) := by decide +kernel
theorem dX10_ends_16 : decode cX10_ends 16 = .ok (.getfield 7, 3) := by decide +kernel
theorem dX10_ends_19 : decode cX10_ends 19 = .ok (.bipush 23, 2) := by decide +kernel
theorem dX10_ends_21 : decode cX10_ends 21 = .ok (.iload_n 1, 1) := by decide +kernel
theorem dX10_ends_22 : decode cX10_ends 22 = .ok (.iadd, 1) := by decide +kernel
theorem dX10_ends_23 : decode cX10_ends 23 = .ok (.iaload, 1) := by decide +kernel
theorem dX10_ends_24 : decode cX10_ends 24 = .ok (.istore_n 2, 1) := by decide +kernel
theorem dX10_ends_25 : decode cX10_ends 25 = .ok (.iconst 0, 1) := by decide +kernel
theorem dX10_ends_26 : decode cX10_ends 26 = .ok (.istore_n 3, 1) := by decide +kernel
theorem dX10_ends_27 : decode cX10_ends 27 = .ok (.iload_n 3, 1) := by decide +kernel
theorem dX10_ends_28 : decode cX10_ends 28 = .ok (.aload_n 0, 1) := by decide +kernel
theorem dX10_ends_29 : decode cX10_ends 29 = .ok (.getfield 7, 3) := by decide +kernel
theorem dX10_ends_32 : decode cX10_ends 32 = .ok (.iconst 2, 1) := by decide +kernel
theorem dX10_ends_33 : decode cX10_ends 33 = .ok (.iaload, 1) := by decide +kernel
theorem dX10_ends_34 : decode cX10_ends 34 = .ok (.if_icmp .ge 40, 3) := by decide +kernel
theorem dX10_ends_37 : decode cX10_ends 37 = .ok (.aload_n 0, 1) := by decide +kernel
theorem dX10_ends_38 : decode cX10_ends 38 = .ok (.getfield 7, 3) := by decide +kernel
theorem dX10_ends_41 : decode cX10_ends 41 = .ok (.bipush 105, 2) := by decide +kernel
theorem dX10_ends_43 : decode cX10_ends 43 = .ok (.iload_n 3, 1) := by decide +kernel
theorem dX10_ends_44 : decode cX10_ends 44 = .ok (.iadd, 1) := by decide +kernel
theorem dX10_ends_45 : decode cX10_ends 45 = .ok (.iaload, 1) := by decide +kernel
theorem dX10_ends_46 : decode cX10_ends 46 = .ok (.iload_n 1, 1) := by decide +kernel
theorem dX10_ends_47 : decode cX10_ends 47 = .ok (.ishr, 1) := by decide +kernel
theorem dX10_ends_48 : decode cX10_ends 48 = .ok (.iconst 1, 1) := by decide +kernel
theorem dX10_ends_49 : decode cX10_ends 49 = .ok (.iand, 1) := by decide +kernel
theorem dX10_ends_50 : decode cX10_ends 50 = .ok (.iconst 1, 1) := by decide +kernel
theorem dX10_ends_51 : decode cX10_ends 51 = .ok (.if_icmp .ne 15, 3) := by decide +kernel
theorem dX10_ends_54 : decode cX10_ends 54 = .ok (.aload_n 0, 1) := by decide +kernel
theorem dX10_ends_55 : decode cX10_ends 55 = .ok (.getfield 7, 3) := by decide +kernel
theorem dX10_ends_58 : decode cX10_ends 58 = .ok (.bipush 81, 2) := by decide +kernel
theorem dX10_ends_60 : decode cX10_ends 60 = .ok (.iload_n 3, 1) := by decide +kernel
theorem dX10_ends_61 : decode cX10_ends 61 = .ok (.iadd, 1) := by decide +kernel
theorem dX10_ends_62 : decode cX10_ends 62 = .ok (.iaload, 1) := by decide +kernel
theorem dX10_ends_63 : decode cX10_ends 63 = .ok (.goto 4, 3) := by decide +kernel
theorem dX10_ends_66 : decode cX10_ends 66 = .ok (.iload_n 2, 1) := by decide +kernel
theorem dX10_ends_67 : decode cX10_ends 67 = .ok (.istore_n 2, 1) := by decide +kernel
theorem dX10_ends_68 : decode cX10_ends 68 = .ok (.iinc 3 1, 3) := by decide +kernel
theorem dX10_ends_71 : decode cX10_ends 71 = .ok (.goto (-44), 3) := by decide +kernel
theorem dX10_ends_74 : decode cX10_ends 74 = .ok (.iload_n 2, 1) := by decide +kernel
theorem dX10_ends_75 : decode cX10_ends 75 = .ok (.ireturn, 1) := by decide +kernel
set_option maxRecDepth 20000 in
theorem ggX10_findRows_X10_may : GoodIn wsX10_findRows wsX10_may := goodIn_r _ [8, 9, 10, 11, 7, 12, 13, 14, 15, 16, 17, 18, 19, 20, 21, 22, 23, 24, 25, 26, 27, 28, 29, 30, 31, 32, 33, 34, 35, 36, 37, 38, 39, 40, 41, 42, 43, 44, 45, 46, 47, 48, 49, 50, 51] (by decide +kernel) (by decide +kernel)
set_option maxRecDepth 20000 in
theorem gX10_findRows_X10_may : GoodIn wsX10_findRows (wsV RX10 103 RX10 yX10_may wsX10_may) := goodIn_app (goodIn_of _ (by decide +kernel)) ggX10_findRows_X10_may
theorem dX10_findRows_0 : decode cX10_findRows 0 = .ok (.iload_n 2, 1) := by decide +kernel
theorem dX10_findRows_1 : decode cX10_findRows 1 = .ok (.iconst 1, 1) := by decide +kernel
theorem dX10_findRows_2 : decode cX10_findRows 2 = .ok (.iadd, 1) := by decide +kernel
theorem dX10_findRows_3 : decode cX10_findRows 3 = .ok (.istore_n 3, 1) := by decide +kernel
theorem dX10_findRows_4 : decode cX10_findRows 4 = .ok (.iload_n 3, 1) := by decide +kernel
theorem dX10_findRows_5 : decode cX10_findRows 5 = .ok (.iconst 1, 1) := by decide +kernel
theorem dX10_findRows_6 : decode cX10_findRows 6 = .ok (.if_icmp .lt 289, 3) := by decide +kernel
theorem dX10_findRows_9 : decode cX10_findRows 9 = .ok (.iconst 0, 1) := by decide +kernel
theorem dX10_findRows_10 : decode cX10_findRows 10 = .ok (.istore 4, 2) := by decide +kernel
theorem dX10_findRows_12 : decode cX10_findRows 12 = .ok (.iload 4, 2) := by decide +kernel
theorem dX10_findRows_14 : decode cX10_findRows 14 = .ok (.iload_n 2, 1) := by decide +kernel
theorem dX10_findRows_15 : decode cX10_findRows 15 = .ok (.if_icmp .gt 274, 3) := by decide +kernel
theorem dX10_findRows_18 : decode cX10_findRows 18 = .ok (.bipush 33, 2) := by decide +kernel
theorem dX10_findRows_20 : decode cX10_findRows 20 = .ok (.iload 4, 2) := by decide +kernel
theorem dX10_findRows_22 : decode cX10_findRows 22 = .ok (.imul, 1) := by decide +kernel
theorem dX10_findRows_23 : decode cX10_findRows 23 = .ok (.iload_n 3, 1) := by decide +kernel
theorem dX10_findRows_24 : decode cX10_findRows 24 = .ok (.iadd, 1) := by decide +kernel
theorem dX10_findRows_25 : decode cX10_findRows 25 = .ok (.istore 5, 2) := by decide +kernel
theorem dX10_findRows_27 : decode cX10_findRows 27 = .ok (.iload 4, 2) := by decide +kernel
theorem dX10_findRows_29 : decode cX10_findRows 29 = .ok (.ifCond .ne 7, 3) := by decide +kernel
theorem dX10_findRows_32 : decode cX10_findRows 32 = .ok (.iconst 1, 1) := by decide +kernel
theorem dX10_findRows_33 : decode cX10_findRows 33 = .ok (.goto 4, 3) := by decide +kernel
theorem dX10_findRows_36 : decode cX10_findRows 36 = .ok (.iconst 0, 1) := by decide +kernel
theorem dX10_findRows_37 : decode cX10_findRows 37 = .ok (.istore 6, 2) := by decide +kernel
theorem dX10_findRows_39 : decode cX10_findRows 39 = .ok (.aload_n 0, 1) := by decide +kernel
theorem dX10_findRows_40 : decode cX10_findRows 40 = .ok (.getfield 51, 3) := by decide +kernel
theorem dX10_findRows_43 : decode cX10_findRows 43 = .ok (.iload 5, 2) := by decide +kernel
theorem dX10_findRows_45 : decode cX10_findRows 45 = .ok (.iload 6, 2) := by decide +kernel
theorem dX10_findRows_47 : decode cX10_findRows 47 = .ok (.ifCond .eq 7, 3) := by decide +kernel
theorem dX10_findRows_50 : decode cX10_findRows 50 = .ok (.iconst 1, 1) := by decide +kernel
theorem dX10_findRows_51 : decode cX10_findRows 51 = .ok (.goto 21, 3) := by decide +kernel
theorem dX10_findRows_54 : decode cX10_findRows 54 = .ok (.iload_n 3, 1) := by decide +kernel
theorem dX10_findRows_55 : decode cX10_findRows 55 = .ok (.iload_n 2, 1) := by decide +kernel
theorem dX10_findRows_56 : decode cX10_findRows 56 = .ok (.if_icmp .le 7, 3) := by decide +kernel
theorem dX10_findRows_59 : decode cX10_findRows 59 = .ok (.iconst 0, 1) := by decide +kernel
theorem dX10_findRows_60 : decode cX10_findRows 60 = .ok (.goto 12, 3) := by decide +kernel
theorem dX10_findRows_63 : decode cX10_findRows 63 = .ok (.aload_n 0, 1) := by decide +kernel
theorem dX10_findRows_64 : decode cX10_findRows 64 = .ok (.getfield 51, 3) := by decide +kernel
theorem dX10_findRows_67 : decode cX10_findRows 67 = .ok (.iload 5, 2) := by decide +kernel
theorem dX10_findRows_69 : decode cX10_findRows 69 = .ok (.iconst 1, 1) := by decide +kernel
theorem dX10_findRows_70 : decode cX10_findRows 70 = .ok (.iadd, 1) := by decide +kernel
theorem dX10_findRows_71 : decode cX10_findRows 71 = .ok (.iaload, 1) := by decide +kernel
theorem dX10_findRows_72 : decode cX10_findRows 72 = .ok (.iastore, 1) := by decide +kernel
theorem dX10_findRows_73 : decode cX10_findRows 73 = .ok (.aload_n 0, 1) := by decide +kernel
theorem dX10_findRows_74 : decode cX10_findRows 74 = .ok (.getfield 54, 3) := by decide +kernel
theorem dX10_findRows_77 : decode cX10_findRows 77 = .ok (.iload 5, 2) := by decide +kernel
theorem dX10_findRows_79 : decode cX10_findRows 79 = .ok (.iload 6, 2) := by decide +kernel
theorem dX10_findRows_81 : decode cX10_findRows 81 = .ok (.ifCond .eq 7, 3) := by decide +kernel
theorem dX10_findRows_84 : decode cX10_findRows 84 = .ok (.iconst 0, 1) := by decide +kernel
theorem dX10_findRows_85 : decode cX10_findRows 85 = .ok (.goto 23, 3) := by decide +kernel
theorem dX10_findRows_88 : decode cX10_findRows 88 = .ok (.iload_n 3, 1) := by decide +kernel
theorem dX10_findRows_89 : decode cX10_findRows 89 = .ok (.iload_n 2, 1) := by decide +kernel
theorem dX10_findRows_90 : decode cX10_findRows 90 = .ok (.if_icmp .le 9, 3) := by decide +kernel
theorem dX10_findRows_93 : decode cX10_findRows 93 = .ok (.sipush 9999, 3) := by decide +kernel
theorem dX10_findRows_96 : decode cX10_findRows 96 = .ok (.goto 12, 3) := by decide +kernel
theorem dX10_findRows_99 : decode cX10_findRows 99 = .ok (.aload_n 0, 1) := by decide +kernel
theorem dX10_findRows_100 : decode cX10_findRows 100 = .ok (.getfield 54, 3) := by decide +kernel
theorem dX10_findRows_103 : decode cX10_findRows 103 = .ok (.iload 5, 2) := by decide +kernel
theorem dX10_findRows_105 : decode cX10_findRows 105 = .ok (.iconst 1, 1) := by decide +kernel
theorem dX10_findRows_106 : decode cX10_findRows 106 = .ok (.iadd, 1) := by decide +kernel
theorem dX10_findRows_107 : decode cX10_findRows 107 = .ok (.iaload, 1) := by decide +kernel
theorem dX10_findRows_108 : decode cX10_findRows 108 = .ok (.iastore, 1) := by decide +kernel
theorem dX10_findRows_109 : decode cX10_findRows 109 = .ok (.aload_n 0, 1) := by decide +kernel
theorem dX10_findRows_110 : decode cX10_findRows 110 = .ok (.getfield 57, 3) := by decide +kernel
theorem dX10_findRows_113 : decode cX10_findRows 113 = .ok (.iload 5, 2) := by decide +kernel
theorem dX10_findRows_115 : decode cX10_findRows 115 = .ok (.iload 6, 2) := by decide +kernel
theorem dX10_findRows_117 : decode cX10_findRows 117 = .ok (.ifCond .eq 7, 3) := by decide +kernel
theorem dX10_findRows_120 : decode cX10_findRows 120 = .ok (.iconst 0, 1) := by decide +kernel
theorem dX10_findRows_121 : decode cX10_findRows 121 = .ok (.goto 23, 3) := by decide +kernel
theorem dX10_findRows_124 : decode cX10_findRows 124 = .ok (.iload_n 3, 1) := by decide +kernel
theorem dX10_findRows_125 : decode cX10_findRows 125 = .ok (.iload_n 2, 1) := by decide +kernel
theorem dX10_findRows_126 : decode cX10_findRows 126 = .ok (.if_icmp .le 9, 3) := by decide +kernel
theorem dX10_findRows_129 : decode cX10_findRows 129 = .ok (.sipush (-9999), 3) := by decide +kernel
theorem dX10_findRows_132 : decode cX10_findRows 132 = .ok (.goto 12, 3) := by decide +kernel
theorem dX10_findRows_135 : decode cX10_findRows 135 = .ok (.aload_n 0, 1) := by decide +kernel
theorem dX10_findRows_136 : decode cX10_findRows 136 = .ok (.getfield 57, 3) := by decide +kernel
theorem dX10_findRows_139 : decode cX10_findRows 139 = .ok (.iload 5, 2) := by decide +kernel
theorem dX10_findRows_141 : decode cX10_findRows 141 = .ok (.iconst 1, 1) := by decide +kernel
theorem dX10_findRows_142 : decode cX10_findRows 142 = .ok (.iadd, 1) := by decide +kernel
theorem dX10_findRows_143 : decode cX10_findRows 143 = .ok (.iaload, 1) := by decide +kernel
theorem dX10_findRows_144 : decode cX10_findRows 144 = .ok (.iastore, 1) := by decide +kernel
theorem dX10_findRows_145 : decode cX10_findRows 145 = .ok (.iload 4, 2) := by decide +kernel
theorem dX10_findRows_147 : decode cX10_findRows 147 = .ok (.ifCond .le 136, 3) := by decide +kernel
theorem dX10_findRows_150 : decode cX10_findRows 150 = .ok (.iload_n 3, 1) := by decide +kernel
theorem dX10_findRows_151 : decode cX10_findRows 151 = .ok (.iload 4, 2) := by decide +kernel
theorem dX10_findRows_153 : decode cX10_findRows 153 = .ok (.if_icmp .gt 130, 3) := by decide +kernel
theorem dX10_findRows_156 : decode cX10_findRows 156 = .ok (.aload_n 0, 1) := by decide +kernel
theorem dX10_findRows_157 : decode cX10_findRows 157 = .ok (.iload_n 1, 1) := by decide +kernel
theorem dX10_findRows_158 : decode cX10_findRows 158 = .ok (.iload_n 3, 1) := by decide +kernel
theorem dX10_findRows_159 : decode cX10_findRows 159 = .ok (.invokevirtual 103, 3) := by decide +kernel
theorem dX10_findRows_162 : decode cX10_findRows 162 = .ok (.ifCond .eq 121, 3) := by decide +kernel
theorem dX10_findRows_165 : decode cX10_findRows 165 = .ok (.bipush 33, 2) := by decide +kernel
theorem dX10_findRows_167 : decode cX10_findRows 167 = .ok (.iload 4, 2) := by decide +kernel
theorem dX10_findRows_169 : decode cX10_findRows 169 = .ok (.iload_n 3, 1) := by decide +kernel
theorem dX10_findRows_170 : decode cX10_findRows 170 = .ok (.isub, 1) := by decide +kernel
theorem dX10_findRows_171 : decode cX10_findRows 171 = .ok (.imul, 1) := by decide +kernel
theorem dX10_findRows_172 : decode cX10_findRows 172 = .ok (.iload_n 3, 1) := by decide +kernel
theorem dX10_findRows_173 : decode cX10_findRows 173 = .ok (.iadd, 1) := by decide +kernel
theorem dX10_findRows_174 : decode cX10_findRows 174 = .ok (.istore 7, 2) := by decide +kernel
theorem dX10_findRows_176 : decode cX10_findRows 176 = .ok (.aload_n 0, 1) := by decide +kernel
theorem dX10_findRows_177 : decode cX10_findRows 177 = .ok (.getfield 51, 3) := by decide +kernel
theorem dX10_findRows_180 : decode cX10_findRows 180 = .ok (.iload 5, 2) := by decide +kernel
theorem dX10_findRows_182 : decode cX10_findRows 182 = .ok (.dup2, 1) := by decide +kernel
theorem dX10_findRows_183 : decode cX10_findRows 183 = .ok (.iaload, 1) := by decide +kernel
theorem dX10_findRows_184 : decode cX10_findRows 184 = .ok (.aload_n 0, 1) := by decide +kernel
theorem dX10_findRows_185 : decode cX10_findRows 185 = .ok (.getfield 51, 3) := by decide +kernel
theorem dX10_findRows_188 : decode cX10_findRows 188 = .ok (.iload 7, 2) := by decide +kernel
theorem dX10_findRows_190 : decode cX10_findRows 190 = .ok (.iaload, 1) := by decide +kernel
theorem dX10_findRows_191 : decode cX10_findRows 191 = .ok (.iadd, 1) := by decide +kernel
theorem dX10_findRows_192 : decode cX10_findRows 192 = .ok (.iastore, 1) := by decide +kernel
theorem dX10_findRows_193 : decode cX10_findRows 193 = .ok (.aload_n 0, 1) := by decide +kernel
theorem dX10_findRows_194 : decode cX10_findRows 194 = .ok (.getfield 54, 3) := by decide +kernel
theorem dX10_findRows_197 : decode cX10_findRows 197 = .ok (.iload 5, 2) := by decide +kernel
theorem dX10_findRows_199 : decode cX10_findRows 199 = .ok (.aload_n 0, 1) := by decide +kernel
theorem dX10_findRows_200 : decode cX10_findRows 200 = .ok (.getfield 54, 3) := by decide +kernel
theorem dX10_findRows_203 : decode cX10_findRows 203 = .ok (.iload 7, 2) := by decide +kernel
theorem dX10_findRows_205 : decode cX10_findRows 205 = .ok (.iaload, 1) := by decide +kernel
theorem dX10_findRows_206 : decode cX10_findRows 206 = .ok (.iconst 1, 1) := by decide +kernel
theorem dX10_findRows_207 : decode cX10_findRows 207 = .ok (.iadd, 1) := by decide +kernel
theorem dX10_findRows_208 : decode cX10_findRows 208 = .ok (.aload_n 0, 1) := by decide +kernel
theorem dX10_findRows_209 : decode cX10_findRows 209 = .ok (.getfield 54, 3) := by decide +kernel
theorem dX10_findRows_212 : decode cX10_findRows 212 = .ok (.iload 5, 2) := by decide +kernel
theorem dX10_findRows_214 : decode cX10_findRows 214 = .ok (.iaload, 1) := by decide +kernel
theorem dX10_findRows_215 : decode cX10_findRows 215 = .ok (.if_icmp .ge 15, 3) := by decide +kernel
theorem dX10_findRows_218 : decode cX10_findRows 218 = .ok (.aload_n 0, 1) := by decide +kernel
theorem dX10_findRows_219 : decode cX10_findRows 219 = .ok (.getfield 54, 3) := by decide +kernel
theorem dX10_findRows_222 : decode cX10_findRows 222 = .ok (.iload 7, 2) := by decide +kernel
theorem dX10_findRows_224 : decode cX10_findRows 224 = .ok (.iaload, 1) := by decide +kernel
theorem dX10_findRows_225 : decode cX10_findRows 225 = .ok (.iconst 1, 1) := by decide +kernel
theorem dX10_findRows_226 : decode cX10_findRows 226 = .ok (.iadd, 1) := by decide +kernel
theorem dX10_findRows_227 : decode cX10_findRows 227 = .ok (.goto 10, 3) := by decide +kernel
theorem dX10_findRows_230 : decode cX10_findRows 230 = .ok (.aload_n 0, 1) := by decide +kernel
theorem dX10_findRows_231 : decode cX10_findRows 231 = .ok (.getfield 54, 3) := by decide +kernel
theorem dX10_findRows_234 : decode cX10_findRows 234 = .ok (.iload 5, 2) := by decide +kernel
theorem dX10_findRows_236 : decode cX10_findRows 236 = .ok (.iaload, 1) := by decide +kernel
theorem dX10_findRows_237 : decode cX10_findRows 237 = .ok (.iastore, 1) := by decide +kernel
theorem dX10_findRows_238 : decode cX10_findRows 238 = .ok (.aload_n 0, 1) := by decide +kernel
theorem dX10_findRows_239 : decode cX10_findRows 239 = .ok (.getfield 57, 3) := by decide +kernel
theorem dX10_findRows_242 : decode cX10_findRows 242 = .ok (.iload 5, 2) := by decide +kernel
theorem dX10_findRows_244 : decode cX10_findRows 244 = .ok (.aload_n 0, 1) := by decide +kernel
theorem dX10_findRows_245 : decode cX10_findRows 245 = .ok (.getfield 57, 3) := by decide +kernel
theorem dX10_findRows_248 : decode cX10_findRows 248 = .ok (.iload 7, 2) := by decide +kernel
theorem dX10_findRows_250 : decode cX10_findRows 250 = .ok (.iaload, 1) := by decide +kernel
theorem dX10_findRows_251 : decode cX10_findRows 251 = .ok (.iconst 1, 1) := by decide +kernel
theorem dX10_findRows_252 : decode cX10_findRows 252 = .ok (.iadd, 1) := by decide +kernel
theorem dX10_findRows_253 : decode cX10_findRows 253 = .ok (.aload_n 0, 1) := by decide +kernel
theorem dX10_findRows_254 : decode cX10_findRows 254 = .ok (.getfield 57, 3) := by decide +kernel
theorem dX10_findRows_257 : decode cX10_findRows 257 = .ok (.iload 5, 2) := by decide +kernel
theorem dX10_findRows_259 : decode cX10_findRows 259 = .ok (.iaload, 1) := by decide +kernel
theorem dX10_findRows_260 : decode cX10_findRows 260 = .ok (.if_icmp .le 15, 3) := by decide +kernel
theorem dX10_findRows_263 : decode cX10_findRows 263 = .ok (.aload_n 0, 1) := by decide +kernel
theorem dX10_findRows_264 : decode cX10_findRows 264 = .ok (.getfield 57, 3) := by decide +kernel
theorem dX10_findRows_267 : decode cX10_findRows 267 = .ok (.iload 7, 2) := by decide +kernel
theorem dX10_findRows_269 : decode cX10_findRows 269 = .ok (.iaload, 1) := by decide +kernel
theorem dX10_findRows_270 : decode cX10_findRows 270 = .ok (.iconst 1, 1) := by decide +kernel
theorem dX10_findRows_271 : decode cX10_findRows 271 = .ok (.iadd, 1) := by decide +kernel
theorem dX10_findRows_272 : decode cX10_findRows 272 = .ok (.goto 10, 3) := by decide +kernel
theorem dX10_findRows_275 : decode cX10_findRows 275 = .ok (.aload_n 0, 1) := by decide +kernel
theorem dX10_findRows_276 : decode cX10_findRows 276 = .ok (.getfield 57, 3) := by decide +kernel
theorem dX10_findRows_279 : decode cX10_findRows 279 = .ok (.iload 5, 2) := by decide +kernel
theorem dX10_findRows_281 : decode cX10_findRows 281 = .ok (.iaload, 1) := by decide +kernel
theorem dX10_findRows_282 : decode cX10_findRows 282 = .ok (.iastore, 1) := by decide +kernel
theorem dX10_findRows_283 : decode cX10_findRows 283 = .ok (.iinc 4 1, 3) := by decide +kernel
theorem dX10_findRows_286 : decode cX10_findRows 286 = .ok (.goto (-274), 3) := by decide +kernel
theorem dX10_findRows_289 : decode cX10_findRows 289 = .ok (.iinc 3 (-1), 3) := by decide +kernel
theorem dX10_findRows_292 : decode cX10_findRows 292 = .ok (.goto (-288), 3) := by decide +kernel
theorem dX10_findRows_295 : decode cX10_findRows 295 = .ok (.return_, 1) := by decide +kernel
set_option maxRecDepth 20000 in
theorem ggX10_parted_X10_isRule : GoodIn wsX10_parted wsX10_isRule := goodIn_r _ [7, 8, 9, 6, 10] (by decide +kernel) (by decide +kernel)
set_option maxRecDepth 20000 in
theorem gX10_parted_X10_isRule : GoodIn wsX10_parted (va_wsS RX10 100 yX10_isRule wsX10_isRule) := goodIn_app (goodIn_of _ (by decide +kernel)) ggX10_parted_X10_isRule
set_option maxRecDepth 20000 in
theorem ggX10_parted_X10_in : GoodIn wsX10_parted wsX10_in := goodIn_r _ [10] (by decide +kernel) (by decide +kernel)
set_option maxRecDepth 20000 in
theorem gX10_parted_X10_in : GoodIn wsX10_parted (va_wsS RX10 95 yX10_in wsX10_in) := goodIn_app (goodIn_of _ (by decide +kernel)) ggX10_parted_X10_in
set_option maxRecDepth 20000 in
theorem ggX10_parted_X10_refuseAs : GoodIn wsX10_parted wsX10_refuseAs := goodIn_r _ [14, 15, 16, 17, 6, 18, 19, 35, 36, 37, 38, 39, 40, 41, 42, 43, 44, 45, 46, 47, 48, 49, 50, 51, 52, 53, 54, 55, 56, 57, 58, 59, 60, 61, 62, 63, 64, 65, 66, 67] (by decide +kernel) (by decide +kernel)
set_option maxRecDepth 20000 in
theorem gX10_parted_X10_refuseAs : GoodIn wsX10_parted (wsV RX10 164 RX10 yX10_refuseAs wsX10_refuseAs) := goodIn_app (goodIn_of _ (by decide +kernel)) ggX10_parted_X10_refuseAs
set_option maxRecDepth 20000 in
theorem ggX10_parted_X10_findRows : GoodIn wsX10_parted wsX10_findRows := goodIn_r _ [23, 1, 2, 3, 24, 25, 26, 6, 27, 28, 29, 30, 31, 32, 33, 34, 8, 9, 10, 35, 36, 37, 38, 39, 40, 41, 42, 43, 44, 45, 46, 47, 48, 49, 50, 51, 52, 53, 54, 55, 56, 57, 58, 59, 60, 61, 62, 63, 64, 65, 66, 67] (by decide +kernel) (by decide +kernel)
set_option maxRecDepth 20000 in
theorem gX10_parted_X10_findRows : GoodIn wsX10_parted (wsV RX10 173 RX10 yX10_findRows wsX10_findRows) := goodIn_app (goodIn_of _ (by decide +kernel)) ggX10_parted_X10_findRows
theorem dX10_parted_0 : decode cX10_parted 0 = .ok (.iload_n 1, 1) := by decide +kernel
theorem dX10_parted_1 : decode cX10_parted 1 = .ok (.invokestatic 100, 3) := by decide +kernel
theorem dX10_parted_4 : decode cX10_parted 4 = .ok (.ifCond .eq 22, 3) := by decide +kernel
theorem dX10_parted_7 : decode cX10_parted 7 = .ok (.iload_n 2, 1) := by decide +kernel
theorem dX10_parted_8 : decode cX10_parted 8 = .ok (.iconst 0, 1) := by decide +kernel
theorem dX10_parted_9 : decode cX10_parted 9 = .ok (.bipush 30, 2) := by decide +kernel
theorem dX10_parted_11 : decode cX10_parted 11 = .ok (.invokestatic 95, 3) := by decide +kernel
theorem dX10_parted_14 : decode cX10_parted 14 = .ok (.ifCond .eq 12, 3) := by decide +kernel
theorem dX10_parted_17 : decode cX10_parted 17 = .ok (.iload_n 3, 1) := by decide +kernel
theorem dX10_parted_18 : decode cX10_parted 18 = .ok (.iconst 0, 1) := by decide +kernel
theorem dX10_parted_19 : decode cX10_parted 19 = .ok (.iconst 2, 1) := by decide +kernel
theorem dX10_parted_20 : decode cX10_parted 20 = .ok (.invokestatic 95, 3) := by decide +kernel
theorem dX10_parted_23 : decode cX10_parted 23 = .ok (.ifCond .ne 12, 3) := by decide +kernel
theorem dX10_parted_26 : decode cX10_parted 26 = .ok (.aload_n 0, 1) := by decide +kernel
theorem dX10_parted_27 : decode cX10_parted 27 = .ok (.bipush (-2), 2) := by decide +kernel
theorem dX10_parted_29 : decode cX10_parted 29 = .ok (.bipush (-10), 2) := by decide +kernel
theorem dX10_parted_31 : decode cX10_parted 31 = .ok (.invokevirtual 164, 3) := by decide +kernel
theorem dX10_parted_34 : decode cX10_parted 34 = .ok (.ireturn, 1) := by decide +kernel
theorem dX10_parted_35 : decode cX10_parted 35 = .ok (.aload_n 0, 1) := by decide +kernel
theorem dX10_parted_36 : decode cX10_parted 36 = .ok (.iload_n 1, 1) := by decide +kernel
theorem dX10_parted_37 : decode cX10_parted 37 = .ok (.iload_n 2, 1) := by decide +kernel
theorem dX10_parted_38 : decode cX10_parted 38 = .ok (.invokevirtual 173, 3) := by decide +kernel
theorem dX10_parted_41 : decode cX10_parted 41 = .ok (.bipush 33, 2) := by decide +kernel
theorem dX10_parted_43 : decode cX10_parted 43 = .ok (.iload_n 2, 1) := by decide +kernel
theorem dX10_parted_44 : decode cX10_parted 44 = .ok (.imul, 1) := by decide +kernel
theorem dX10_parted_45 : decode cX10_parted 45 = .ok (.iconst 1, 1) := by decide +kernel
theorem dX10_parted_46 : decode cX10_parted 46 = .ok (.iadd, 1) := by decide +kernel
theorem dX10_parted_47 : decode cX10_parted 47 = .ok (.istore 4, 2) := by decide +kernel
theorem dX10_parted_49 : decode cX10_parted 49 = .ok (.iload_n 3, 1) := by decide +kernel
theorem dX10_parted_50 : decode cX10_parted 50 = .ok (.ifCond .ne 13, 3) := by decide +kernel
theorem dX10_parted_53 : decode cX10_parted 53 = .ok (.aload_n 0, 1) := by decide +kernel
theorem dX10_parted_54 : decode cX10_parted 54 = .ok (.getfield 51, 3) := by decide +kernel
theorem dX10_parted_57 : decode cX10_parted 57 = .ok (.iload 4, 2) := by decide +kernel
theorem dX10_parted_59 : decode cX10_parted 59 = .ok (.iaload, 1) := by decide +kernel
theorem dX10_parted_60 : decode cX10_parted 60 = .ok (.goto 39, 3) := by decide +kernel
theorem dX10_parted_63 : decode cX10_parted 63 = .ok (.aload_n 0, 1) := by decide +kernel
theorem dX10_parted_64 : decode cX10_parted 64 = .ok (.getfield 51, 3) := by decide +kernel
theorem dX10_parted_67 : decode cX10_parted 67 = .ok (.iload 4, 2) := by decide +kernel
theorem dX10_parted_69 : decode cX10_parted 69 = .ok (.iaload, 1) := by decide +kernel
theorem dX10_parted_70 : decode cX10_parted 70 = .ok (.ifCond .ne 7, 3) := by decide +kernel
theorem dX10_parted_73 : decode cX10_parted 73 = .ok (.iconst (-1), 1) := by decide +kernel
theorem dX10_parted_74 : decode cX10_parted 74 = .ok (.goto 25, 3) := by decide +kernel
theorem dX10_parted_77 : decode cX10_parted 77 = .ok (.iload_n 3, 1) := by decide +kernel
theorem dX10_parted_78 : decode cX10_parted 78 = .ok (.iconst 1, 1) := by decide +kernel
theorem dX10_parted_79 : decode cX10_parted 79 = .ok (.if_icmp .ne 13, 3) := by decide +kernel
theorem dX10_parted_82 : decode cX10_parted 82 = .ok (.aload_n 0, 1) := by decide +kernel
theorem dX10_parted_83 : decode cX10_parted 83 = .ok (.getfield 54, 3) := by decide +kernel
theorem dX10_parted_86 : decode cX10_parted 86 = .ok (.iload 4, 2) := by decide +kernel
theorem dX10_parted_88 : decode cX10_parted 88 = .ok (.iaload, 1) := by decide +kernel
theorem dX10_parted_89 : decode cX10_parted 89 = .ok (.goto 10, 3) := by decide +kernel
theorem dX10_parted_92 : decode cX10_parted 92 = .ok (.aload_n 0, 1) := by decide +kernel
theorem dX10_parted_93 : decode cX10_parted 93 = .ok (.getfield 57, 3) := by decide +kernel
theorem dX10_parted_96 : decode cX10_parted 96 = .ok (.iload 4, 2) := by decide +kernel
theorem dX10_parted_98 : decode cX10_parted 98 = .ok (.iaload, 1) := by decide +kernel
theorem dX10_parted_99 : decode cX10_parted 99 = .ok (.ireturn, 1) := by decide +kernel
set_option maxRecDepth 20000 in
theorem ggX10_row_X10_isRule : GoodIn wsX10_row wsX10_isRule := goodIn_r _ [5, 6, 7, 4, 8] (by decide +kernel) (by decide +kernel)
set_option maxRecDepth 20000 in
theorem gX10_row_X10_isRule : GoodIn wsX10_row (va_wsS RX10 100 yX10_isRule wsX10_isRule) := goodIn_app (goodIn_of _ (by decide +kernel)) ggX10_row_X10_isRule
set_option maxRecDepth 20000 in
theorem ggX10_row_X10_in : GoodIn wsX10_row wsX10_in := goodIn_r _ [8] (by decide +kernel) (by decide +kernel)
set_option maxRecDepth 20000 in
theorem gX10_row_X10_in : GoodIn wsX10_row (va_wsS RX10 95 yX10_in wsX10_in) := goodIn_app (goodIn_of _ (by decide +kernel)) ggX10_row_X10_in
set_option maxRecDepth 20000 in
theorem ggX10_row_X10_refuseAs : GoodIn wsX10_row wsX10_refuseAs := goodIn_r _ [12, 13, 14, 15, 4, 16, 17, 35, 36, 37, 38, 39, 40, 41, 42, 43, 44, 45, 46, 47, 48, 49, 50, 51, 52, 53, 54, 55, 56, 57, 58, 59, 60, 61, 62, 63, 64, 65, 66, 67] (by decide +kernel) (by decide +kernel)
set_option maxRecDepth 20000 in
theorem gX10_row_X10_refuseAs : GoodIn wsX10_row (wsV RX10 164 RX10 yX10_refuseAs wsX10_refuseAs) := goodIn_app (goodIn_of _ (by decide +kernel)) ggX10_row_X10_refuseAs
set_option maxRecDepth 20000 in
theorem ggX10_row_X10_findRows : GoodIn wsX10_row wsX10_findRows := goodIn_r _ [21, 1, 22, 23, 24, 25, 26, 4, 27, 28, 29, 30, 31, 32, 33, 34, 6, 7, 8, 35, 36, 37, 38, 39, 40, 41, 42, 43, 44, 45, 46, 47, 48, 49, 50, 51, 52, 53, 54, 55, 56, 57, 58, 59, 60, 61, 62, 63, 64, 65, 66, 67] (by decide +kernel) (by decide +kernel)
set_option maxRecDepth 20000 in
theorem gX10_row_X10_findRows : GoodIn wsX10_row (wsV RX10 173 RX10 yX10_findRows wsX10_findRows) := goodIn_app (goodIn_of _ (by decide +kernel)) ggX10_row_X10_findRows
set_option maxRecDepth 20000 in
theorem ggX10_row_X10_may : GoodIn wsX10_row wsX10_may := goodIn_r _ [27, 28, 29, 30, 4, 31, 32, 33, 34, 6, 7, 8, 35, 36, 37, 38, 39, 40, 41, 42, 43, 44, 45, 46, 47, 48, 49, 50, 51, 52, 53, 54, 55, 56, 57, 58, 59, 60, 61, 62, 63, 64, 65, 66, 67] (by decide +kernel) (by decide +kernel)
set_option maxRecDepth 20000 in
theorem gX10_row_X10_may : GoodIn wsX10_row (wsV RX10 103 RX10 yX10_may wsX10_may) := goodIn_app (goodIn_of _ (by decide +kernel)) ggX10_row_X10_may
theorem dX10_row_0 : decode cX10_row 0 = .ok (.iload_n 1, 1) := by decide +kernel
theorem dX10_row_1 : decode cX10_row 1 = .ok (.invokestatic 100, 3) := by decide +kernel
theorem dX10_row_4 : decode cX10_row 4 = .ok (.ifCond .eq 22, 3) := by decide +kernel
theorem dX10_row_7 : decode cX10_row 7 = .ok (.iload_n 2, 1) := by decide +kernel
theorem dX10_row_8 : decode cX10_row 8 = .ok (.iconst 0, 1) := by decide +kernel
theorem dX10_row_9 : decode cX10_row 9 = .ok (.bipush 30, 2) := by decide +kernel
theorem dX10_row_11 : decode cX10_row 11 = .ok (.invokestatic 95, 3) := by decide +kernel
theorem dX10_row_14 : decode cX10_row 14 = .ok (.ifCond .eq 12, 3) := by decide +kernel
theorem dX10_row_17 : decode cX10_row 17 = .ok (.iload_n 3, 1) := by decide +kernel
theorem dX10_row_18 : decode cX10_row 18 = .ok (.ifCond .lt 8, 3) := by decide +kernel
theorem dX10_row_21 : decode cX10_row 21 = .ok (.iload 4, 2) := by decide +kernel
theorem dX10_row_23 : decode cX10_row 23 = .ok (.ifCond .ge 12, 3) := by decide +kernel
theorem dX10_row_26 : decode cX10_row 26 = .ok (.aload_n 0, 1) := by decide +kernel
theorem dX10_row_27 : decode cX10_row 27 = .ok (.bipush (-2), 2) := by decide +kernel
theorem dX10_row_29 : decode cX10_row 29 = .ok (.bipush (-10), 2) := by decide +kernel
theorem dX10_row_31 : decode cX10_row 31 = .ok (.invokevirtual 164, 3) := by decide +kernel
theorem dX10_row_34 : decode cX10_row 34 = .ok (.ireturn, 1) := by decide +kernel
theorem dX10_row_35 : decode cX10_row 35 = .ok (.aload_n 0, 1) := by decide +kernel
theorem dX10_row_36 : decode cX10_row 36 = .ok (.iload_n 1, 1) := by decide +kernel
theorem dX10_row_37 : decode cX10_row 37 = .ok (.iload_n 2, 1) := by decide +kernel
theorem dX10_row_38 : decode cX10_row 38 = .ok (.invokevirtual 173, 3) := by decide +kernel
theorem dX10_row_41 : decode cX10_row 41 = .ok (.iload_n 3, 1) := by decide +kernel
theorem dX10_row_42 : decode cX10_row 42 = .ok (.aload_n 0, 1) := by decide +kernel
theorem dX10_row_43 : decode cX10_row 43 = .ok (.getfield 51, 3) := by decide +kernel
theorem dX10_row_46 : decode cX10_row 46 = .ok (.bipush 33, 2) := by decide +kernel
theorem dX10_row_48 : decode cX10_row 48 = .ok (.iload_n 2, 1) := by decide +kernel
theorem dX10_row_49 : decode cX10_row 49 = .ok (.imul, 1) := by decide +kernel
theorem dX10_row_50 : decode cX10_row 50 = .ok (.iconst 1, 1) := by decide +kernel
theorem dX10_row_51 : decode cX10_row 51 = .ok (.iadd, 1) := by decide +kernel
theorem dX10_row_52 : decode cX10_row 52 = .ok (.iaload, 1) := by decide +kernel
theorem dX10_row_53 : decode cX10_row 53 = .ok (.if_icmp .lt 6, 3) := by decide +kernel
theorem dX10_row_56 : decode cX10_row 56 = .ok (.bipush (-5), 2) := by decide +kernel
theorem dX10_row_58 : decode cX10_row 58 = .ok (.ireturn, 1) := by decide +kernel
theorem dX10_row_59 : decode cX10_row 59 = .ok (.iload_n 2, 1) := by decide +kernel
theorem dX10_row_60 : decode cX10_row 60 = .ok (.istore 5, 2) := by decide +kernel
theorem dX10_row_62 : decode cX10_row 62 = .ok (.iconst 1, 1) := by decide +kernel
theorem dX10_row_63 : decode cX10_row 63 = .ok (.istore 6, 2) := by decide +kernel
theorem dX10_row_65 : decode cX10_row 65 = .ok (.iload_n 3, 1) := by decide +kernel
theorem dX10_row_66 : decode cX10_row 66 = .ok (.istore 7, 2) := by decide +kernel
theorem dX10_row_68 : decode cX10_row 68 = .ok (.iconst 0, 1) := by decide +kernel
theorem dX10_row_69 : decode cX10_row 69 = .ok (.istore 8, 2) := by decide +kernel
theorem dX10_row_71 : decode cX10_row 71 = .ok (.iload 8, 2) := by decide +kernel
theorem dX10_row_73 : decode cX10_row 73 = .ok (.iload 4, 2) := by decide +kernel
theorem dX10_row_75 : decode cX10_row 75 = .ok (.if_icmp .gt 122, 3) := by decide +kernel
theorem dX10_row_78 : decode cX10_row 78 = .ok (.iload 5, 2) := by decide +kernel
theorem dX10_row_80 : decode cX10_row 80 = .ok (.ifCond .ne 6, 3) := by decide +kernel
theorem dX10_row_83 : decode cX10_row 83 = .ok (.bipush (-5), 2) := by decide +kernel
theorem dX10_row_85 : decode cX10_row 85 = .ok (.ireturn, 1) := by decide +kernel
theorem dX10_row_86 : decode cX10_row 86 = .ok (.aload_n 0, 1) := by decide +kernel
theorem dX10_row_87 : decode cX10_row 87 = .ok (.iload_n 1, 1) := by decide +kernel
theorem dX10_row_88 : decode cX10_row 88 = .ok (.iload 6, 2) := by decide +kernel
theorem dX10_row_90 : decode cX10_row 90 = .ok (.invokevirtual 103, 3) := by decide +kernel
theorem dX10_row_93 : decode cX10_row 93 = .ok (.ifCond .eq 29, 3) := by decide +kernel
theorem dX10_row_96 : decode cX10_row 96 = .ok (.iload 6, 2) := by decide +kernel
theorem dX10_row_98 : decode cX10_row 98 = .ok (.iload 5, 2) := by decide +kernel
theorem dX10_row_100 : decode cX10_row 100 = .ok (.if_icmp .gt 22, 3) := by decide +kernel
theorem dX10_row_103 : decode cX10_row 103 = .ok (.aload_n 0, 1) := by decide +kernel
theorem dX10_row_104 : decode cX10_row 104 = .ok (.getfield 51, 3) := by decide +kernel
theorem dX10_row_107 : decode cX10_row 107 = .ok (.bipush 33, 2) := by decide +kernel
theorem dX10_row_109 : decode cX10_row 109 = .ok (.iload 5, 2) := by decide +kernel
theorem dX10_row_111 : decode cX10_row 111 = .ok (.iload 6, 2) := by decide +kernel
theorem dX10_row_113 : decode cX10_row 113 = .ok (.isub, 1) := by decide +kernel
theorem dX10_row_114 : decode cX10_row 114 = .ok (.imul, 1) := by decide +kernel
theorem dX10_row_115 : decode cX10_row 115 = .ok (.iload 6, 2) := by decide +kernel
theorem dX10_row_117 : decode cX10_row 117 = .ok (.iadd, 1) := by decide +kernel
theorem dX10_row_118 : decode cX10_row 118 = .ok (.iaload, 1) := by decide +kernel
theorem dX10_row_119 : decode cX10_row 119 = .ok (.goto 4, 3) := by decide +kernel
theorem dX10_row_122 : decode cX10_row 122 = .ok (.iconst 0, 1) := by decide +kernel
theorem dX10_row_123 : decode cX10_row 123 = .ok (.istore 9, 2) := by decide +kernel
theorem dX10_row_125 : decode cX10_row 125 = .ok (.iload 7, 2) := by decide +kernel
theorem dX10_row_127 : decode cX10_row 127 = .ok (.iload 9, 2) := by decide +kernel
theorem dX10_row_129 : decode cX10_row 129 = .ok (.if_icmp .lt 55, 3) := by decide +kernel
theorem dX10_row_132 : decode cX10_row 132 = .ok (.iload 7, 2) := by decide +kernel
theorem dX10_row_134 : decode cX10_row 134 = .ok (.iload 9, 2) := by decide +kernel
theorem dX10_row_136 : decode cX10_row 136 = .ok (.isub, 1) := by decide +kernel
theorem dX10_row_137 : decode cX10_row 137 = .ok (.istore 7, 2) := by decide +kernel
theorem dX10_row_139 : decode cX10_row 139 = .ok (.iinc 6 1, 3) := by decide +kernel
theorem dX10_row_142 : decode cX10_row 142 = .ok (.aload_n 0, 1) := by decide +kernel
theorem dX10_row_143 : decode cX10_row 143 = .ok (.iload_n 1, 1) := by decide +kernel
theorem dX10_row_144 : decode cX10_row 144 = .ok (.iload 6, 2) := by decide +kernel
theorem dX10_row_146 : decode cX10_row 146 = .ok (.invokevirtual 103, 3) := by decide +kernel
theorem dX10_row_149 : decode cX10_row 149 = .ok (.ifCond .eq 29, 3) := by decide +kernel
theorem dX10_row_152 : decode cX10_row 152 = .ok (.iload 6, 2) := by decide +kernel
theorem dX10_row_154 : decode cX10_row 154 = .ok (.iload 5, 2) := by decide +kernel
theorem dX10_row_156 : decode cX10_row 156 = .ok (.if_icmp .gt 22, 3) := by decide +kernel
theorem dX10_row_159 : decode cX10_row 159 = .ok (.aload_n 0, 1) := by decide +kernel
theorem dX10_row_160 : decode cX10_row 160 = .ok (.getfield 51, 3) := by decide +kernel
theorem dX10_row_163 : decode cX10_row 163 = .ok (.bipush 33, 2) := by decide +kernel
theorem dX10_row_165 : decode cX10_row 165 = .ok (.iload 5, 2) := by decide +kernel
theorem dX10_row_167 : decode cX10_row 167 = .ok (.iload 6, 2) := by decide +kernel
theorem dX10_row_169 : decode cX10_row 169 = .ok (.isub, 1) := by decide +kernel
theorem dX10_row_170 : decode cX10_row 170 = .ok (.imul, 1) := by decide +kernel
theorem dX10_row_171 : decode cX10_row 171 = .ok (.iload 6, 2) := by decide +kernel
theorem dX10_row_173 : decode cX10_row 173 = .ok (.iadd, 1) := by decide +kernel
theorem dX10_row_174 : decode cX10_row 174 = .ok (.iaload, 1) := by decide +kernel
theorem dX10_row_175 : decode cX10_row 175 = .ok (.goto 4, 3) := by decide +kernel
theorem dX10_row_178 : decode cX10_row 178 = .ok (.iconst 0, 1) := by decide +kernel
theorem dX10_row_179 : decode cX10_row 179 = .ok (.istore 9, 2) := by decide +kernel
theorem dX10_row_181 : decode cX10_row 181 = .ok (.goto (-56), 3) := by decide +kernel
theorem dX10_row_184 : decode cX10_row 184 = .ok (.iload 5, 2) := by decide +kernel
theorem dX10_row_186 : decode cX10_row 186 = .ok (.iload 6, 2) := by decide +kernel
theorem dX10_row_188 : decode cX10_row 188 = .ok (.isub, 1) := by decide +kernel
theorem dX10_row_189 : decode cX10_row 189 = .ok (.istore 5, 2) := by decide +kernel
theorem dX10_row_191 : decode cX10_row 191 = .ok (.iinc 8 1, 3) := by decide +kernel
theorem dX10_row_194 : decode cX10_row 194 = .ok (.goto (-123), 3) := by decide +kernel
theorem dX10_row_197 : decode cX10_row 197 = .ok (.iload 6, 2) := by decide +kernel
theorem dX10_row_199 : decode cX10_row 199 = .ok (.ireturn, 1) := by decide +kernel
set_option maxRecDepth 20000 in
theorem ggX10_knot_X10_in : GoodIn wsX10_knot wsX10_in := goodIn_r _ [5] (by decide +kernel) (by decide +kernel)
set_option maxRecDepth 20000 in
theorem gX10_knot_X10_in : GoodIn wsX10_knot (va_wsS RX10 95 yX10_in wsX10_in) := goodIn_app (goodIn_of _ (by decide +kernel)) ggX10_knot_X10_in
set_option maxRecDepth 20000 in
theorem ggX10_knot_X10_refuse : GoodIn wsX10_knot wsX10_refuse := goodIn_r _ [9, 10, 11, 12, 13, 14, 15, 16, 17, 18, 19, 20, 21, 22, 23, 24, 25, 26, 27, 28, 29, 30, 31, 32, 33, 34, 35, 36, 37, 38, 39, 40, 41, 42, 43] (by decide +kernel) (by decide +kernel)
set_option maxRecDepth 20000 in
theorem gX10_knot_X10_refuse : GoodIn wsX10_knot (wsV RX10 84 RX10 yX10_refuse wsX10_refuse) := goodIn_app (goodIn_of _ (by decide +kernel)) ggX10_knot_X10_refuse
theorem dX10_knot_0 : decode cX10_knot 0 = .ok (.iload_n 1, 1) := by decide +kernel
theorem dX10_knot_1 : decode cX10_knot 1 = .ok (.iconst 1, 1) := by decide +kernel
theorem dX10_knot_2 : decode cX10_knot 2 = .ok (.bipush 9, 2) := by decide +kernel
theorem dX10_knot_4 : decode cX10_knot 4 = .ok (.invokestatic 95, 3) := by decide +kernel
theorem dX10_knot_7 : decode cX10_knot 7 = .ok (.ifCond .ne 10, 3) := by decide +kernel
theorem dX10_knot_10 : decode cX10_knot 10 = .ok (.aload_n 0, 1) := by decide +kernel
theorem dX10_knot_11 : decode cX10_knot 11 = .ok (.bipush (-2), 2) := by decide +kernel
theorem dX10_knot_13 : decode cX10_knot 13 = .ok (.invokevirtual 84, 3) := by decide +kernel
theorem dX10_knot_16 : decode cX10_knot 16 = .ok (.ireturn, 1) := by decide +kernel
theorem dX10_knot_17 : decode cX10_knot 17 = .ok (.aload_n 0, 1) := by decide +kernel
theorem dX10_knot_18 : decode cX10_knot 18 = .ok (.getfield 7, 3) := by decide +kernel
theorem dX10_knot_21 : decode cX10_knot 21 = .ok (.iconst 4, 1) := by decide +kernel
theorem dX10_knot_22 : decode cX10_knot 22 = .ok (.iaload, 1) := by decide +kernel
theorem dX10_knot_23 : decode cX10_knot 23 = .ok (.istore_n 2, 1) := by decide +kernel
theorem dX10_knot_24 : decode cX10_knot 24 = .ok (.iload_n 2, 1) := by decide +kernel
theorem dX10_knot_25 : decode cX10_knot 25 = .ok (.bipush 8, 2) := by decide +kernel
theorem dX10_knot_27 : decode cX10_knot 27 = .ok (.if_icmp .ne 10, 3) := by decide +kernel
theorem dX10_knot_30 : decode cX10_knot 30 = .ok (.aload_n 0, 1) := by decide +kernel
theorem dX10_knot_31 : decode cX10_knot 31 = .ok (.bipush (-4), 2) := by decide +kernel
theorem dX10_knot_33 : decode cX10_knot 33 = .ok (.invokevirtual 84, 3) := by decide +kernel
theorem dX10_knot_36 : decode cX10_knot 36 = .ok (.ireturn, 1) := by decide +kernel
theorem dX10_knot_37 : decode cX10_knot 37 = .ok (.aload_n 0, 1) := by decide +kernel
theorem dX10_knot_38 : decode cX10_knot 38 = .ok (.getfield 7, 3) := by decide +kernel
theorem dX10_knot_41 : decode cX10_knot 41 = .ok (.sipush 329, 3) := by decide +kernel
theorem dX10_knot_44 : decode cX10_knot 44 = .ok (.iload_n 2, 1) := by decide +kernel
theorem dX10_knot_45 : decode cX10_knot 45 = .ok (.iadd, 1) := by decide +kernel
theorem dX10_knot_46 : decode cX10_knot 46 = .ok (.iload_n 1, 1) := by decide +kernel
theorem dX10_knot_47 : decode cX10_knot 47 = .ok (.iastore, 1) := by decide +kernel
theorem dX10_knot_48 : decode cX10_knot 48 = .ok (.aload_n 0, 1) := by decide +kernel
theorem dX10_knot_49 : decode cX10_knot 49 = .ok (.getfield 7, 3) := by decide +kernel
theorem dX10_knot_52 : decode cX10_knot 52 = .ok (.iconst 4, 1) := by decide +kernel
theorem dX10_knot_53 : decode cX10_knot 53 = .ok (.dup2, 1) := by decide +kernel
theorem dX10_knot_54 : decode cX10_knot 54 = .ok (.iaload, 1) := by decide +kernel
theorem dX10_knot_55 : decode cX10_knot 55 = .ok (.iconst 1, 1) := by decide +kernel
theorem dX10_knot_56 : decode cX10_knot 56 = .ok (.iadd, 1) := by decide +kernel
theorem dX10_knot_57 : decode cX10_knot 57 = .ok (.iastore, 1) := by decide +kernel
theorem dX10_knot_58 : decode cX10_knot 58 = .ok (.iload_n 2, 1) := by decide +kernel
theorem dX10_knot_59 : decode cX10_knot 59 = .ok (.ireturn, 1) := by decide +kernel
theorem dX10_untie_0 : decode cX10_untie 0 = .ok (.aload_n 0, 1) := by decide +kernel
theorem dX10_untie_1 : decode cX10_untie 1 = .ok (.getfield 7, 3) := by decide +kernel
theorem dX10_untie_4 : decode cX10_untie 4 = .ok (.iconst 4, 1) := by decide +kernel
theorem dX10_untie_5 : decode cX10_untie 5 = .ok (.iaload, 1) := by decide +kernel
theorem dX10_untie_6 : decode cX10_untie 6 = .ok (.istore_n 1, 1) := by decide +kernel
theorem dX10_untie_7 : decode cX10_untie 7 = .ok (.aload_n 0, 1) := by decide +kernel
theorem dX10_untie_8 : decode cX10_untie 8 = .ok (.getfield 7, 3) := by decide +kernel
theorem dX10_untie_11 : decode cX10_untie 11 = .ok (.iconst 4, 1) := by decide +kernel
theorem dX10_untie_12 : decode cX10_untie 12 = .ok (.iconst 0, 1) := by decide +kernel
theorem dX10_untie_13 : decode cX10_untie 13 = .ok (.iastore, 1) := by decide +kernel
theorem dX10_untie_14 : decode cX10_untie 14 = .ok (.aload_n 0, 1) := by decide +kernel
theorem dX10_untie_15 : decode cX10_untie 15 = .ok (.getfield 7, 3) := by decide +kernel
theorem dX10_untie_18 : decode cX10_untie 18 = .ok (.iconst 5, 1) := by decide +kernel
theorem dX10_untie_19 : decode cX10_untie 19 = .ok (.iconst 0, 1) := by decide +kernel
theorem dX10_untie_20 : decode cX10_untie 20 = .ok (.iastore, 1) := by decide +kernel
theorem dX10_untie_21 : decode cX10_untie 21 = .ok (.iload_n 1, 1) := by decide +kernel
theorem dX10_untie_22 : decode cX10_untie 22 = .ok (.ireturn, 1) := by decide +kernel
set_option maxRecDepth 20000 in
theorem ggX10_isKnot_X10_in : GoodIn wsX10_isKnot wsX10_in := goodIn_r _ [5] (by decide +kernel) (by decide +kernel)
set_option maxRecDepth 20000 in
theorem gX10_isKnot_X10_in : GoodIn wsX10_isKnot (va_wsS RX10 95 yX10_in wsX10_in) := goodIn_app (goodIn_of _ (by decide +kernel)) ggX10_isKnot_X10_in
theorem dX10_isKnot_0 : decode cX10_isKnot 0 = .ok (.iload_n 1, 1) := by decide +kernel
theorem dX10_isKnot_1 : decode cX10_isKnot 1 = .ok (.iconst 0, 1) := by decide +kernel
theorem dX10_isKnot_2 : decode cX10_isKnot 2 = .ok (.aload_n 0, 1) := by decide +kernel
theorem dX10_isKnot_3 : decode cX10_isKnot 3 = .ok (.getfield 7, 3) := by decide +kernel
theorem dX10_isKnot_6 : decode cX10_isKnot 6 = .ok (.iconst 4, 1) := by decide +kernel
theorem dX10_isKnot_7 : decode cX10_isKnot 7 = .ok (.iaload, 1) := by decide +kernel
theorem dX10_isKnot_8 : decode cX10_isKnot 8 = .ok (.iconst 1, 1) := by decide +kernel
theorem dX10_isKnot_9 : decode cX10_isKnot 9 = .ok (.isub, 1) := by decide +kernel
theorem dX10_isKnot_10 : decode cX10_isKnot 10 = .ok (.invokestatic 95, 3) := by decide +kernel
theorem dX10_isKnot_13 : decode cX10_isKnot 13 = .ok (.ireturn, 1) := by decide +kernel
set_option maxRecDepth 20000 in
theorem ggX10_counted_X10_isKnot : GoodIn wsX10_counted wsX10_isKnot := goodIn_r _ [6, 1, 7, 8, 5, 9, 15, 16, 17, 18, 19, 20, 21, 22, 23, 24, 25, 26, 27, 28, 29, 30, 31, 32, 33, 34, 35, 36, 37, 38, 39, 40, 41, 42, 43, 44, 45, 46, 47] (by decide +kernel) (by decide +kernel)
set_option maxRecDepth 20000 in
theorem gX10_counted_X10_isKnot : GoodIn wsX10_counted (wsV RX10 177 RX10 yX10_isKnot wsX10_isKnot) := goodIn_app (goodIn_of _ (by decide +kernel)) ggX10_counted_X10_isKnot
set_option maxRecDepth 20000 in
theorem ggX10_counted_X10_in : GoodIn wsX10_counted wsX10_in := goodIn_r _ [9] (by decide +kernel) (by decide +kernel)
set_option maxRecDepth 20000 in
theorem gX10_counted_X10_in : GoodIn wsX10_counted (va_wsS RX10 95 yX10_in wsX10_in) := goodIn_app (goodIn_of _ (by decide +kernel)) ggX10_counted_X10_in
set_option maxRecDepth 20000 in
theorem ggX10_counted_X10_refuse : GoodIn wsX10_counted wsX10_refuse := goodIn_r _ [13, 14, 15, 16, 17, 18, 19, 20, 21, 22, 23, 24, 25, 26, 27, 28, 29, 30, 31, 32, 33, 34, 35, 36, 37, 38, 39, 40, 41, 42, 43, 44, 45, 46, 47] (by decide +kernel) (by decide +kernel)
set_option maxRecDepth 20000 in
theorem gX10_counted_X10_refuse : GoodIn wsX10_counted (wsV RX10 84 RX10 yX10_refuse wsX10_refuse) := goodIn_app (goodIn_of _ (by decide +kernel)) ggX10_counted_X10_refuse
theorem dX10_counted_0 : decode cX10_counted 0 = .ok (.aload_n 0, 1) := by decide +kernel
theorem dX10_counted_1 : decode cX10_counted 1 = .ok (.iload_n 1, 1) := by decide +kernel
theorem dX10_counted_2 : decode cX10_counted 2 = .ok (.invokevirtual 177, 3) := by decide +kernel
theorem dX10_counted_5 : decode cX10_counted 5 = .ok (.ifCond .eq 13, 3) := by decide +kernel
theorem dX10_counted_8 : decode cX10_counted 8 = .ok (.iload_n 2, 1) := by decide +kernel
theorem dX10_counted_9 : decode cX10_counted 9 = .ok (.iconst 1, 1) := by decide +kernel
theorem dX10_counted_10 : decode cX10_counted 10 = .ok (.bipush 72, 2) := by decide +kernel
theorem dX10_counted_12 : decode cX10_counted 12 = .ok (.invokestatic 95, 3) := by decide +kernel
theorem dX10_counted_15 : decode cX10_counted 15 = .ok (.ifCond .ne 10, 3) := by decide +kernel
theorem dX10_counted_18 : decode cX10_counted 18 = .ok (.aload_n 0, 1) := by decide +kernel
theorem dX10_counted_19 : decode cX10_counted 19 = .ok (.bipush (-2), 2) := by decide +kernel
theorem dX10_counted_21 : decode cX10_counted 21 = .ok (.invokevirtual 84, 3) := by decide +kernel
theorem dX10_counted_24 : decode cX10_counted 24 = .ok (.ireturn, 1) := by decide +kernel
theorem dX10_counted_25 : decode cX10_counted 25 = .ok (.aload_n 0, 1) := by decide +kernel
theorem dX10_counted_26 : decode cX10_counted 26 = .ok (.getfield 7, 3) := by decide +kernel
theorem dX10_counted_29 : decode cX10_counted 29 = .ok (.iconst 5, 1) := by decide +kernel
theorem dX10_counted_30 : decode cX10_counted 30 = .ok (.iaload, 1) := by decide +kernel
theorem dX10_counted_31 : decode cX10_counted 31 = .ok (.istore_n 3, 1) := by decide +kernel
theorem dX10_counted_32 : decode cX10_counted 32 = .ok (.iload_n 3, 1) := by decide +kernel
theorem dX10_counted_33 : decode cX10_counted 33 = .ok (.iconst 4, 1) := by decide +kernel
theorem dX10_counted_34 : decode cX10_counted 34 = .ok (.if_icmp .ne 10, 3) := by decide +kernel
theorem dX10_counted_37 : decode cX10_counted 37 = .ok (.aload_n 0, 1) := by decide +kernel
theorem dX10_counted_38 : decode cX10_counted 38 = .ok (.bipush (-4), 2) := by decide +kernel
theorem dX10_counted_40 : decode cX10_counted 40 = .ok (.invokevirtual 84, 3) := by decide +kernel
theorem dX10_counted_43 : decode cX10_counted 43 = .ok (.ireturn, 1) := by decide +kernel
theorem dX10_counted_44 : decode cX10_counted 44 = .ok (.aload_n 0, 1) := by decide +kernel
theorem dX10_counted_45 : decode cX10_counted 45 = .ok (.getfield 7, 3) := by decide +kernel
theorem dX10_counted_48 : decode cX10_counted 48 = .ok (.sipush 337, 3) := by decide +kernel
theorem dX10_counted_51 : decode cX10_counted 51 = .ok (.iload_n 3, 1) := by decide +kernel
theorem dX10_counted_52 : decode cX10_counted 52 = .ok (.iadd, 1) := by decide +kernel
theorem dX10_counted_53 : decode cX10_counted 53 = .ok (.iload_n 1, 1) := by decide +kernel
theorem dX10_counted_54 : decode cX10_counted 54 = .ok (.iastore, 1) := by decide +kernel
theorem dX10_counted_55 : decode cX10_counted 55 = .ok (.aload_n 0, 1) := by decide +kernel
theorem dX10_counted_56 : decode cX10_counted 56 = .ok (.getfield 7, 3) := by decide +kernel
theorem dX10_counted_59 : decode cX10_counted 59 = .ok (.sipush 341, 3) := by decide +kernel
theorem dX10_counted_62 : decode cX10_counted 62 = .ok (.iload_n 3, 1) := by decide +kernel
theorem dX10_counted_63 : decode cX10_counted 63 = .ok (.iadd, 1) := by decide +kernel
theorem dX10_counted_64 : decode cX10_counted 64 = .ok (.iload_n 2, 1) := by decide +kernel
theorem dX10_counted_65 : decode cX10_counted 65 = .ok (.iastore, 1) := by decide +kernel
theorem dX10_counted_66 : decode cX10_counted 66 = .ok (.aload_n 0, 1) := by decide +kernel
theorem dX10_counted_67 : decode cX10_counted 67 = .ok (.getfield 7, 3) := by decide +kernel
theorem dX10_counted_70 : decode cX10_counted 70 = .ok (.iconst 5, 1) := by decide +kernel
theorem dX10_counted_71 : decode cX10_counted 71 = .ok (.dup2, 1) := by decide +kernel
theorem dX10_counted_72 : decode cX10_counted 72 = .ok (.iaload, 1) := by decide +kernel
theorem dX10_counted_73 : decode cX10_counted 73 = .ok (.iconst 1, 1) := by decide +kernel
theorem dX10_counted_74 : decode cX10_counted 74 = .ok (.iadd, 1) := by decide +kernel
theorem dX10_counted_75 : decode cX10_counted 75 = .ok (.iastore, 1) := by decide +kernel
theorem dX10_counted_76 : decode cX10_counted 76 = .ok (.iload_n 3, 1) := by decide +kernel
theorem dX10_counted_77 : decode cX10_counted 77 = .ok (.iconst 1, 1) := by decide +kernel
theorem dX10_counted_78 : decode cX10_counted 78 = .ok (.iadd, 1) := by decide +kernel
theorem dX10_counted_79 : decode cX10_counted 79 = .ok (.ireturn, 1) := by decide +kernel
set_option maxRecDepth 20000 in
theorem ggX10_isCompany_X10_may : GoodIn wsX10_isCompany wsX10_may := goodIn_r _ [6, 1, 7, 8, 5, 9, 10, 11, 12, 13, 14, 15, 16, 17, 18, 19, 20, 21, 22, 23, 24, 25, 26, 27, 28, 29, 30, 31, 32, 33, 34, 35, 36, 37, 38, 39, 40, 41, 42, 43, 44, 45, 46, 47, 48] (by decide +kernel) (by decide +kernel)
set_option maxRecDepth 20000 in
theorem gX10_isCompany_X10_may : GoodIn wsX10_isCompany (wsV RX10 103 RX10 yX10_may wsX10_may) := goodIn_app (goodIn_of _ (by decide +kernel)) ggX10_isCompany_X10_may
theorem dX10_isCompany_0 : decode cX10_isCompany 0 = .ok (.iconst 0, 1) := by decide +kernel
theorem dX10_isCompany_1 : decode cX10_isCompany 1 = .ok (.istore_n 3, 1) := by decide +kernel
theorem dX10_isCompany_2 : decode cX10_isCompany 2 = .ok (.iconst 0, 1) := by decide +kernel
theorem dX10_isCompany_3 : decode cX10_isCompany 3 = .ok (.istore 4, 2) := by decide +kernel
theorem dX10_isCompany_5 : decode cX10_isCompany 5 = .ok (.iload 4, 2) := by decide +kernel
theorem dX10_isCompany_7 : decode cX10_isCompany 7 = .ok (.aload_n 0, 1) := by decide +kernel
theorem dX10_isCompany_8 : decode cX10_isCompany 8 = .ok (.getfield 7, 3) := by decide +kernel
theorem dX10_isCompany_11 : decode cX10_isCompany 11 = .ok (.iconst 4, 1) := by decide +kernel
theorem dX10_isCompany_12 : decode cX10_isCompany 12 = .ok (.iaload, 1) := by decide +kernel
theorem dX10_isCompany_13 : decode cX10_isCompany 13 = .ok (.if_icmp .ge 37, 3) := by decide +kernel
theorem dX10_isCompany_16 : decode cX10_isCompany 16 = .ok (.iload_n 3, 1) := by decide +kernel
theorem dX10_isCompany_17 : decode cX10_isCompany 17 = .ok (.iload_n 2, 1) := by decide +kernel
theorem dX10_isCompany_18 : decode cX10_isCompany 18 = .ok (.iload 4, 2) := by decide +kernel
theorem dX10_isCompany_20 : decode cX10_isCompany 20 = .ok (.ishr, 1) := by decide +kernel
theorem dX10_isCompany_21 : decode cX10_isCompany 21 = .ok (.iconst 1, 1) := by decide +kernel
theorem dX10_isCompany_22 : decode cX10_isCompany 22 = .ok (.iand, 1) := by decide +kernel
theorem dX10_isCompany_23 : decode cX10_isCompany 23 = .ok (.iconst 1, 1) := by decide +kernel
theorem dX10_isCompany_24 : decode cX10_isCompany 24 = .ok (.if_icmp .ne 17, 3) := by decide +kernel
theorem dX10_isCompany_27 : decode cX10_isCompany 27 = .ok (.aload_n 0, 1) := by decide +kernel
theorem dX10_isCompany_28 : decode cX10_isCompany 28 = .ok (.getfield 7, 3) := by decide +kernel
theorem dX10_isCompany_31 : decode cX10_isCompany 31 = .ok (.sipush 329, 3) := by decide +kernel
theorem dX10_isCompany_34 : decode cX10_isCompany 34 = .ok (.iload 4, 2) := by decide +kernel
theorem dX10_isCompany_36 : decode cX10_isCompany 36 = .ok (.iadd, 1) := by decide +kernel
theorem dX10_isCompany_37 : decode cX10_isCompany 37 = .ok (.iaload, 1) := by decide +kernel
theorem dX10_isCompany_38 : decode cX10_isCompany 38 = .ok (.goto 4, 3) := by decide +kernel
theorem dX10_isCompany_41 : decode cX10_isCompany 41 = .ok (.iconst 0, 1) := by decide +kernel
theorem dX10_isCompany_42 : decode cX10_isCompany 42 = .ok (.iadd, 1) := by decide +kernel
theorem dX10_isCompany_43 : decode cX10_isCompany 43 = .ok (.istore_n 3, 1) := by decide +kernel
theorem dX10_isCompany_44 : decode cX10_isCompany 44 = .ok (.iinc 4 1, 3) := by decide +kernel
theorem dX10_isCompany_47 : decode cX10_isCompany 47 = .ok (.goto (-42), 3) := by decide +kernel
theorem dX10_isCompany_50 : decode cX10_isCompany 50 = .ok (.aload_n 0, 1) := by decide +kernel
theorem dX10_isCompany_51 : decode cX10_isCompany 51 = .ok (.iload_n 1, 1) := by decide +kernel
theorem dX10_isCompany_52 : decode cX10_isCompany 52 = .ok (.iload_n 3, 1) := by decide +kernel
theorem dX10_isCompany_53 : decode cX10_isCompany 53 = .ok (.invokevirtual 103, 3) := by decide +kernel
theorem dX10_isCompany_56 : decode cX10_isCompany 56 = .ok (.istore 4, 2) := by decide +kernel
theorem dX10_isCompany_58 : decode cX10_isCompany 58 = .ok (.iconst 0, 1) := by decide +kernel
theorem dX10_isCompany_59 : decode cX10_isCompany 59 = .ok (.istore 5, 2) := by decide +kernel
theorem dX10_isCompany_61 : decode cX10_isCompany 61 = .ok (.iload 5, 2) := by decide +kernel
theorem dX10_isCompany_63 : decode cX10_isCompany 63 = .ok (.aload_n 0, 1) := by decide +kernel
theorem dX10_isCompany_64 : decode cX10_isCompany 64 = .ok (.getfield 7, 3) := by decide +kernel
theorem dX10_isCompany_67 : decode cX10_isCompany 67 = .ok (.iconst 5, 1) := by decide +kernel
theorem dX10_isCompany_68 : decode cX10_isCompany 68 = .ok (.iaload, 1) := by decide +kernel
theorem dX10_isCompany_69 : decode cX10_isCompany 69 = .ok (.if_icmp .ge 54, 3) := by decide +kernel
theorem dX10_isCompany_72 : decode cX10_isCompany 72 = .ok (.iload 4, 2) := by decide +kernel
theorem dX10_isCompany_74 : decode cX10_isCompany 74 = .ok (.ifCond .eq 40, 3) := by decide +kernel
theorem dX10_isCompany_77 : decode cX10_isCompany 77 = .ok (.iload_n 2, 1) := by decide +kernel
theorem dX10_isCompany_78 : decode cX10_isCompany 78 = .ok (.aload_n 0, 1) := by decide +kernel
theorem dX10_isCompany_79 : decode cX10_isCompany 79 = .ok (.getfield 7, 3) := by decide +kernel
theorem dX10_isCompany_82 : decode cX10_isCompany 82 = .ok (.sipush 337, 3) := by decide +kernel
theorem dX10_isCompany_85 : decode cX10_isCompany 85 = .ok (.iload 5, 2) := by decide +kernel
theorem dX10_isCompany_87 : decode cX10_isCompany 87 = .ok (.iadd, 1) := by decide +kernel
theorem dX10_isCompany_88 : decode cX10_isCompany 88 = .ok (.iaload, 1) := by decide +kernel
theorem dX10_isCompany_89 : decode cX10_isCompany 89 = .ok (.ishr, 1) := by decide +kernel
theorem dX10_isCompany_90 : decode cX10_isCompany 90 = .ok (.iconst 1, 1) := by decide +kernel
theorem dX10_isCompany_91 : decode cX10_isCompany 91 = .ok (.iand, 1) := by decide +kernel
theorem dX10_isCompany_92 : decode cX10_isCompany 92 = .ok (.ifCond .eq 18, 3) := by decide +kernel
theorem dX10_isCompany_95 : decode cX10_isCompany 95 = .ok (.aload_n 0, 1) := by decide +kernel
theorem dX10_isCompany_96 : decode cX10_isCompany 96 = .ok (.getfield 7, 3) := by decide +kernel
theorem dX10_isCompany_99 : decode cX10_isCompany 99 = .ok (.sipush 341, 3) := by decide +kernel
theorem dX10_isCompany_102 : decode cX10_isCompany 102 = .ok (.iload 5, 2) := by decide +kernel
theorem dX10_isCompany_104 : decode cX10_isCompany 104 = .ok (.iadd, 1) := by decide +kernel
theorem dX10_isCompany_105 : decode cX10_isCompany 105 = .ok (.iaload, 1) := by decide +kernel
theorem dX10_isCompany_106 : decode cX10_isCompany 106 = .ok (.iload_n 3, 1) := by decide +kernel
theorem dX10_isCompany_107 : decode cX10_isCompany 107 = .ok (.if_icmp .ne 7, 3) := by decide +kernel
theorem dX10_isCompany_110 : decode cX10_isCompany 110 = .ok (.iconst 1, 1) := by decide +kernel
theorem dX10_isCompany_111 : decode cX10_isCompany 111 = .ok (.goto 4, 3) := by decide +kernel
theorem dX10_isCompany_114 : decode cX10_isCompany 114 = .ok (.iconst 0, 1) := by decide +kernel
theorem dX10_isCompany_115 : decode cX10_isCompany 115 = .ok (.istore 4, 2) := by decide +kernel
theorem dX10_isCompany_117 : decode cX10_isCompany 117 = .ok (.iinc 5 1, 3) := by decide +kernel
theorem dX10_isCompany_120 : decode cX10_isCompany 120 = .ok (.goto (-59), 3) := by decide +kernel
theorem dX10_isCompany_123 : decode cX10_isCompany 123 = .ok (.iload 4, 2) := by decide +kernel
theorem dX10_isCompany_125 : decode cX10_isCompany 125 = .ok (.ireturn, 1) := by decide +kernel
set_option maxRecDepth 20000 in
theorem ggX10_findParts_X10_isCompany : GoodIn wsX10_findParts wsX10_isCompany := goodIn_r _ [9, 4, 10, 11, 12, 8, 13, 14, 15, 16, 17, 18, 19, 20, 21, 22, 23, 24, 25, 26, 27, 28, 29, 30, 31, 32, 33, 34, 35, 36, 37, 38, 39, 40, 41, 42, 43, 44, 45, 46, 47, 48, 49, 50, 51, 52, 53, 54, 55] (by decide +kernel) (by decide +kernel)
set_option maxRecDepth 20000 in
theorem gX10_findParts_X10_isCompany : GoodIn wsX10_findParts (wsV RX10 180 RX10 yX10_isCompany wsX10_isCompany) := goodIn_app (goodIn_of _ (by decide +kernel)) ggX10_findParts_X10_isCompany
theorem dX10_findParts_0 : decode cX10_findParts 0 = .ok (.aload_n 0, 1) := by decide +kernel
theorem dX10_findParts_1 : decode cX10_findParts 1 = .ok (.getfield 60, 3) := by decide +kernel
theorem dX10_findParts_4 : decode cX10_findParts 4 = .ok (.iconst 0, 1) := by decide +kernel
theorem dX10_findParts_5 : decode cX10_findParts 5 = .ok (.iconst 1, 1) := by decide +kernel
theorem dX10_findParts_6 : decode cX10_findParts 6 = .ok (.iastore, 1) := by decide +kernel
theorem dX10_findParts_7 : decode cX10_findParts 7 = .ok (.aload_n 0, 1) := by decide +kernel
theorem dX10_findParts_8 : decode cX10_findParts 8 = .ok (.getfield 63, 3) := by decide +kernel
theorem dX10_findParts_11 : decode cX10_findParts 11 = .ok (.iconst 0, 1) := by decide +kernel
theorem dX10_findParts_12 : decode cX10_findParts 12 = .ok (.iconst 0, 1) := by decide +kernel
theorem dX10_findParts_13 : decode cX10_findParts 13 = .ok (.iastore, 1) := by decide +kernel
theorem dX10_findParts_14 : decode cX10_findParts 14 = .ok (.aload_n 0, 1) := by decide +kernel
theorem dX10_findParts_15 : decode cX10_findParts 15 = .ok (.getfield 66, 3) := by decide +kernel
theorem dX10_findParts_18 : decode cX10_findParts 18 = .ok (.iconst 0, 1) := by decide +kernel
theorem dX10_findParts_19 : decode cX10_findParts 19 = .ok (.iconst 0, 1) := by decide +kernel
theorem dX10_findParts_20 : decode cX10_findParts 20 = .ok (.iastore, 1) := by decide +kernel
theorem dX10_findParts_21 : decode cX10_findParts 21 = .ok (.iconst 1, 1) := by decide +kernel
theorem dX10_findParts_22 : decode cX10_findParts 22 = .ok (.istore_n 3, 1) := by decide +kernel
theorem dX10_findParts_23 : decode cX10_findParts 23 = .ok (.iload_n 3, 1) := by decide +kernel
theorem dX10_findParts_24 : decode cX10_findParts 24 = .ok (.iconst 1, 1) := by decide +kernel
theorem dX10_findParts_25 : decode cX10_findParts 25 = .ok (.aload_n 0, 1) := by decide +kernel
theorem dX10_findParts_26 : decode cX10_findParts 26 = .ok (.getfield 7, 3) := by decide +kernel
theorem dX10_findParts_29 : decode cX10_findParts 29 = .ok (.iconst 4, 1) := by decide +kernel
theorem dX10_findParts_30 : decode cX10_findParts 30 = .ok (.iaload, 1) := by decide +kernel
theorem dX10_findParts_31 : decode cX10_findParts 31 = .ok (.ishl, 1) := by decide +kernel
theorem dX10_findParts_32 : decode cX10_findParts 32 = .ok (.if_icmp .ge 212, 3) := by decide +kernel
theorem dX10_findParts_35 : decode cX10_findParts 35 = .ok (.aload_n 0, 1) := by decide +kernel
theorem dX10_findParts_36 : decode cX10_findParts 36 = .ok (.getfield 60, 3) := by decide +kernel
theorem dX10_findParts_39 : decode cX10_findParts 39 = .ok (.iload_n 3, 1) := by decide +kernel
theorem dX10_findParts_40 : decode cX10_findParts 40 = .ok (.iconst 0, 1) := by decide +kernel
theorem dX10_findParts_41 : decode cX10_findParts 41 = .ok (.iastore, 1) := by decide +kernel
theorem dX10_findParts_42 : decode cX10_findParts 42 = .ok (.aload_n 0, 1) := by decide +kernel
theorem dX10_findParts_43 : decode cX10_findParts 43 = .ok (.getfield 63, 3) := by decide +kernel
theorem dX10_findParts_46 : decode cX10_findParts 46 = .ok (.iload_n 3, 1) := by decide +kernel
theorem dX10_findParts_47 : decode cX10_findParts 47 = .ok (.sipush 9999, 3) := by decide +kernel
theorem dX10_findParts_50 : decode cX10_findParts 50 = .ok (.iastore, 1) := by decide +kernel
theorem dX10_findParts_51 : decode cX10_findParts 51 = .ok (.aload_n 0, 1) := by decide +kernel
theorem dX10_findParts_52 : decode cX10_findParts 52 = .ok (.getfield 66, 3) := by decide +kernel
theorem dX10_findParts_55 : decode cX10_findParts 55 = .ok (.iload_n 3, 1) := by decide +kernel
theorem dX10_findParts_56 : decode cX10_findParts 56 = .ok (.sipush (-9999), 3) := by decide +kernel
theorem dX10_findParts_59 : decode cX10_findParts 59 = .ok (.iastore, 1) := by decide +kernel
theorem dX10_findParts_60 : decode cX10_findParts 60 = .ok (.iload_n 3, 1) := by decide +kernel
theorem dX10_findParts_61 : decode cX10_findParts 61 = .ok (.iload_n 3, 1) := by decide +kernel
theorem dX10_findParts_62 : decode cX10_findParts 62 = .ok (.ineg, 1) := by decide +kernel
theorem dX10_findParts_63 : decode cX10_findParts 63 = .ok (.iand, 1) := by decide +kernel
theorem dX10_findParts_64 : decode cX10_findParts 64 = .ok (.istore 4, 2) := by decide +kernel
theorem dX10_findParts_66 : decode cX10_findParts 66 = .ok (.iload_n 3, 1) := by decide +kernel
theorem dX10_findParts_67 : decode cX10_findParts 67 = .ok (.istore 5, 2) := by decide +kernel
theorem dX10_findParts_69 : decode cX10_findParts 69 = .ok (.iload 5, 2) := by decide +kernel
theorem dX10_findParts_71 : decode cX10_findParts 71 = .ok (.ifCond .le 167, 3) := by decide +kernel
theorem dX10_findParts_74 : decode cX10_findParts 74 = .ok (.iload 5, 2) := by decide +kernel
theorem dX10_findParts_76 : decode cX10_findParts 76 = .ok (.iload_n 2, 1) := by decide +kernel
theorem dX10_findParts_77 : decode cX10_findParts 77 = .ok (.iand, 1) := by decide +kernel
theorem dX10_findParts_78 : decode cX10_findParts 78 = .ok (.ifCond .eq 11, 3) := by decide +kernel
theorem dX10_findParts_81 : decode cX10_findParts 81 = .ok (.iload 5, 2) := by decide +kernel
theorem dX10_findParts_83 : decode cX10_findParts 83 = .ok (.iload_n 2, 1) := by decide +kernel
theorem dX10_findParts_84 : decode cX10_findParts 84 = .ok (.iand, 1) := by decide +kernel
theorem dX10_findParts_85 : decode cX10_findParts 85 = .ok (.iload_n 2, 1) := by decide +kernel
theorem dX10_findParts_86 : decode cX10_findParts 86 = .ok (.if_icmp .ne 7, 3) := by decide +kernel
theorem dX10_findParts_89 : decode cX10_findParts 89 = .ok (.iconst 1, 1) := by decide +kernel
theorem dX10_findParts_90 : decode cX10_findParts 90 = .ok (.goto 4, 3) := by decide +kernel
theorem dX10_findParts_93 : decode cX10_findParts 93 = .ok (.iconst 0, 1) := by decide +kernel
theorem dX10_findParts_94 : decode cX10_findParts 94 = .ok (.istore 6, 2) := by decide +kernel
theorem dX10_findParts_96 : decode cX10_findParts 96 = .ok (.iload 5, 2) := by decide +kernel
theorem dX10_findParts_98 : decode cX10_findParts 98 = .ok (.iload 4, 2) := by decide +kernel
theorem dX10_findParts_100 : decode cX10_findParts 100 = .ok (.iand, 1) := by decide +kernel
theorem dX10_findParts_101 : decode cX10_findParts 101 = .ok (.ifCond .eq 126, 3) := by decide +kernel
theorem dX10_findParts_104 : decode cX10_findParts 104 = .ok (.iload 6, 2) := by decide +kernel
theorem dX10_findParts_106 : decode cX10_findParts 106 = .ok (.ifCond .eq 121, 3) := by decide +kernel
theorem dX10_findParts_109 : decode cX10_findParts 109 = .ok (.aload_n 0, 1) := by decide +kernel
theorem dX10_findParts_110 : decode cX10_findParts 110 = .ok (.iload_n 1, 1) := by decide +kernel
theorem dX10_findParts_111 : decode cX10_findParts 111 = .ok (.iload 5, 2) := by decide +kernel
theorem dX10_findParts_113 : decode cX10_findParts 113 = .ok (.invokevirtual 180, 3) := by decide +kernel
theorem dX10_findParts_116 : decode cX10_findParts 116 = .ok (.ifCond .eq 111, 3) := by decide +kernel
theorem dX10_findParts_119 : decode cX10_findParts 119 = .ok (.iload_n 3, 1) := by decide +kernel
theorem dX10_findParts_120 : decode cX10_findParts 120 = .ok (.iload 5, 2) := by decide +kernel
theorem dX10_findParts_122 : decode cX10_findParts 122 = .ok (.iconst (-1), 1) := by decide +kernel
theorem dX10_findParts_123 : decode cX10_findParts 123 = .ok (.ixor, 1) := by decide +kernel
theorem dX10_findParts_124 : decode cX10_findParts 124 = .ok (.iand, 1) := by decide +kernel
theorem dX10_findParts_125 : decode cX10_findParts 125 = .ok (.istore 7, 2) := by decide +kernel
theorem dX10_findParts_127 : decode cX10_findParts 127 = .ok (.aload_n 0, 1) := by decide +kernel
theorem dX10_findParts_128 : decode cX10_findParts 128 = .ok (.getfield 60, 3) := by decide +kernel
theorem dX10_findParts_131 : decode cX10_findParts 131 = .ok (.iload_n 3, 1) := by decide +kernel
theorem dX10_findParts_132 : decode cX10_findParts 132 = .ok (.dup2, 1) := by decide +kernel
theorem dX10_findParts_133 : decode cX10_findParts 133 = .ok (.iaload, 1) := by decide +kernel
theorem dX10_findParts_134 : decode cX10_findParts 134 = .ok (.aload_n 0, 1) := by decide +kernel
theorem dX10_findParts_135 : decode cX10_findParts 135 = .ok (.getfield 60, 3) := by decide +kernel
theorem dX10_findParts_138 : decode cX10_findParts 138 = .ok (.iload 7, 2) := by decide +kernel
theorem dX10_findParts_140 : decode cX10_findParts 140 = .ok (.iaload, 1) := by decide +kernel
theorem dX10_findParts_141 : decode cX10_findParts 141 = .ok (.iadd, 1) := by decide +kernel
theorem dX10_findParts_142 : decode cX10_findParts 142 = .ok (.iastore, 1) := by decide +kernel
theorem dX10_findParts_143 : decode cX10_findParts 143 = .ok (.aload_n 0, 1) := by decide +kernel
theorem dX10_findParts_144 : decode cX10_findParts 144 = .ok (.getfield 63, 3) := by decide +kernel
theorem dX10_findParts_147 : decode cX10_findParts 147 = .ok (.iload_n 3, 1) := by decide +kernel
theorem dX10_findParts_148 : decode cX10_findParts 148 = .ok (.aload_n 0, 1) := by decide +kernel
theorem dX10_findParts_149 : decode cX10_findParts 149 = .ok (.getfield 63, 3) := by decide +kernel
theorem dX10_findParts_152 : decode cX10_findParts 152 = .ok (.iload 7, 2) := by decide +kernel
theorem dX10_findParts_154 : decode cX10_findParts 154 = .ok (.iaload, 1) := by decide +kernel
theorem dX10_findParts_155 : decode cX10_findParts 155 = .ok (.iconst 1, 1) := by decide +kernel
theorem dX10_findParts_156 : decode cX10_findParts 156 = .ok (.iadd, 1) := by decide +kernel
theorem dX10_findParts_157 : decode cX10_findParts 157 = .ok (.aload_n 0, 1) := by decide +kernel
theorem dX10_findParts_158 : decode cX10_findParts 158 = .ok (.getfield 63, 3) := by decide +kernel
theorem dX10_findParts_161 : decode cX10_findParts 161 = .ok (.iload_n 3, 1) := by decide +kernel
theorem dX10_findParts_162 : decode cX10_findParts 162 = .ok (.iaload, 1) := by decide +kernel
theorem dX10_findParts_163 : decode cX10_findParts 163 = .ok (.if_icmp .ge 15, 3) := by decide +kernel
theorem dX10_findParts_166 : decode cX10_findParts 166 = .ok (.aload_n 0, 1) := by decide +kernel
theorem dX10_findParts_167 : decode cX10_findParts 167 = .ok (.getfield 63, 3) := by decide +kernel
theorem dX10_findParts_170 : decode cX10_findParts 170 = .ok (.iload 7, 2) := by decide +kernel
theorem dX10_findParts_172 : decode cX10_findParts 172 = .ok (.iaload, 1) := by decide +kernel
theorem dX10_findParts_173 : decode cX10_findParts 173 = .ok (.iconst 1, 1) := by decide +kernel
theorem dX10_findParts_174 : decode cX10_findParts 174 = .ok (.iadd, 1) := by decide +kernel
theorem dX10_findParts_175 : decode cX10_findParts 175 = .ok (.goto 9, 3) := by decide +kernel
theorem dX10_findParts_178 : decode cX10_findParts 178 = .ok (.aload_n 0, 1) := by decide +kernel
theorem dX10_findParts_179 : decode cX10_findParts 179 = .ok (.getfield 63, 3) := by decide +kernel
theorem dX10_findParts_182 : decode cX10_findParts 182 = .ok (.iload_n 3, 1) := by decide +kernel
theorem dX10_findParts_183 : decode cX10_findParts 183 = .ok (.iaload, 1) := by decide +kernel
theorem dX10_findParts_184 : decode cX10_findParts 184 = .ok (.iastore, 1) := by decide +kernel
theorem dX10_findParts_185 : decode cX10_findParts 185 = .ok (.aload_n 0, 1) := by decide +kernel
theorem dX10_findParts_186 : decode cX10_findParts 186 = .ok (.getfield 66, 3) := by decide +kernel
theorem dX10_findParts_189 : decode cX10_findParts 189 = .ok (.iload_n 3, 1) := by decide +kernel
theorem dX10_findParts_190 : decode cX10_findParts 190 = .ok (.aload_n 0, 1) := by decide +kernel
theorem dX10_findParts_191 : decode cX10_findParts 191 = .ok (.getfield 66, 3) := by decide +kernel
theorem dX10_findParts_194 : decode cX10_findParts 194 = .ok (.iload 7, 2) := by decide +kernel
theorem dX10_findParts_196 : decode cX10_findParts 196 = .ok (.iaload, 1) := by decide +kernel
theorem dX10_findParts_197 : decode cX10_findParts 197 = .ok (.iconst 1, 1) := by decide +kernel
theorem dX10_findParts_198 : decode cX10_findParts 198 = .ok (.iadd, 1) := by decide +kernel
theorem dX10_findParts_199 : decode cX10_findParts 199 = .ok (.aload_n 0, 1) := by decide +kernel
theorem dX10_findParts_200 : decode cX10_findParts 200 = .ok (.getfield 66, 3) := by decide +kernel
theorem dX10_findParts_203 : decode cX10_findParts 203 = .ok (.iload_n 3, 1) := by decide +kernel
theorem dX10_findParts_204 : decode cX10_findParts 204 = .ok (.iaload, 1) := by decide +kernel
theorem dX10_findParts_205 : decode cX10_findParts 205 = .ok (.if_icmp .le 15, 3) := by decide +kernel
theorem dX10_findParts_208 : decode cX10_findParts 208 = .ok (.aload_n 0, 1) := by decide +kernel
theorem dX10_findParts_209 : decode cX10_findParts 209 = .ok (.getfield 66, 3) := by decide +kernel
theorem dX10_findParts_212 : decode cX10_findParts 212 = .ok (.iload 7, 2) := by decide +kernel
theorem dX10_findParts_214 : decode cX10_findParts 214 = .ok (.iaload, 1) := by decide +kernel
theorem dX10_findParts_215 : decode cX10_findParts 215 = .ok (.iconst 1, 1) := by decide +kernel
theorem dX10_findParts_216 : decode cX10_findParts 216 = .ok (.iadd, 1) := by decide +kernel
theorem dX10_findParts_217 : decode cX10_findParts 217 = .ok (.goto 9, 3) := by decide +kernel
theorem dX10_findParts_220 : decode cX10_findParts 220 = .ok (.aload_n 0, 1) := by decide +kernel
theorem dX10_findParts_221 : decode cX10_findParts 221 = .ok (.getfield 66, 3) := by decide +kernel
theorem dX10_findParts_224 : decode cX10_findParts 224 = .ok (.iload_n 3, 1) := by decide +kernel
theorem dX10_findParts_225 : decode cX10_findParts 225 = .ok (.iaload, 1) := by decide +kernel
theorem dX10_findParts_226 : decode cX10_findParts 226 = .ok (.iastore, 1) := by decide +kernel
theorem dX10_findParts_227 : decode cX10_findParts 227 = .ok (.iload 5, 2) := by decide +kernel
theorem dX10_findParts_229 : decode cX10_findParts 229 = .ok (.iconst 1, 1) := by decide +kernel
theorem dX10_findParts_230 : decode cX10_findParts 230 = .ok (.isub, 1) := by decide +kernel
theorem dX10_findParts_231 : decode cX10_findParts 231 = .ok (.iload_n 3, 1) := by decide +kernel
theorem dX10_findParts_232 : decode cX10_findParts 232 = .ok (.iand, 1) := by decide +kernel
theorem dX10_findParts_233 : decode cX10_findParts 233 = .ok (.istore 5, 2) := by decide +kernel
theorem dX10_findParts_235 : decode cX10_findParts 235 = .ok (.goto (-166), 3) := by decide +kernel
theorem dX10_findParts_238 : decode cX10_findParts 238 = .ok (.iinc 3 1, 3) := by decide +kernel
theorem dX10_findParts_241 : decode cX10_findParts 241 = .ok (.goto (-218), 3) := by decide +kernel
theorem dX10_findParts_244 : decode cX10_findParts 244 = .ok (.return_, 1) := by decide +kernel
theorem dX10_allKnots_0 : decode cX10_allKnots 0 = .ok (.iconst 1, 1) := by decide +kernel
theorem dX10_allKnots_1 : decode cX10_allKnots 1 = .ok (.aload_n 0, 1) := by decide +kernel
theorem dX10_allKnots_2 : decode cX10_allKnots 2 = .ok (.getfield 7, 3) := by decide +kernel
theorem dX10_allKnots_5 : decode cX10_allKnots 5 = .ok (.iconst 4, 1) := by decide +kernel
theorem dX10_allKnots_6 : decode cX10_allKnots 6 = .ok (.iaload, 1) := by decide +kernel
theorem dX10_allKnots_7 : decode cX10_allKnots 7 = .ok (.ishl, 1) := by decide +kernel
theorem dX10_allKnots_8 : decode cX10_allKnots 8 = .ok (.iconst 1, 1) := by decide +kernel
theorem dX10_allKnots_9 : decode cX10_allKnots 9 = .ok (.isub, 1) := by decide +kernel
theorem dX10_allKnots_10 : decode cX10_allKnots 10 = .ok (.ireturn, 1) := by decide +kernel
set_option maxRecDepth 20000 in
theorem ggX10_partings_X10_isRule : GoodIn wsX10_partings wsX10_isRule := goodIn_r _ [7, 8, 9, 6, 10] (by decide +kernel) (by decide +kernel)
set_option maxRecDepth 20000 in
theorem gX10_partings_X10_isRule : GoodIn wsX10_partings (va_wsS RX10 100 yX10_isRule wsX10_isRule) := goodIn_app (goodIn_of _ (by decide +kernel)) ggX10_partings_X10_isRule
set_option maxRecDepth 20000 in
theorem ggX10_partings_X10_in : GoodIn wsX10_partings wsX10_in := goodIn_r _ [10] (by decide +kernel) (by decide +kernel)
set_option maxRecDepth 20000 in
theorem gX10_partings_X10_in : GoodIn wsX10_partings (va_wsS RX10 95 yX10_in wsX10_in) := goodIn_app (goodIn_of _ (by decide +kernel)) ggX10_partings_X10_in
set_option maxRecDepth 20000 in
theorem ggX10_partings_X10_refuseAs : GoodIn wsX10_partings wsX10_refuseAs := goodIn_r _ [14, 15, 16, 17, 6, 18, 19, 43, 44, 45, 46, 47, 48, 49, 50, 51, 52, 53, 54, 55, 56, 57, 58, 59, 60, 61, 62, 63, 64, 65, 66, 67, 68, 69, 70, 71, 72, 73, 74, 75] (by decide +kernel) (by decide +kernel)
set_option maxRecDepth 20000 in
theorem gX10_partings_X10_refuseAs : GoodIn wsX10_partings (wsV RX10 164 RX10 yX10_refuseAs wsX10_refuseAs) := goodIn_app (goodIn_of _ (by decide +kernel)) ggX10_partings_X10_refuseAs
set_option maxRecDepth 20000 in
theorem ggX10_partings_X10_findParts : GoodIn wsX10_partings wsX10_findParts := goodIn_r _ [23, 1, 2, 3, 24, 25, 26, 27, 6, 28, 29, 30, 31, 32, 33, 34, 35, 36, 37, 38, 8, 9, 10, 43, 44, 45, 46, 47, 48, 49, 50, 51, 52, 53, 54, 55, 56, 57, 58, 59, 60, 61, 62, 63, 64, 65, 66, 67, 68, 69, 70, 71, 72, 73, 74, 75] (by decide +kernel) (by decide +kernel)
set_option maxRecDepth 20000 in
theorem gX10_partings_X10_findParts : GoodIn wsX10_partings (wsV RX10 183 RX10 yX10_findParts wsX10_findParts) := goodIn_app (goodIn_of _ (by decide +kernel)) ggX10_partings_X10_findParts
set_option maxRecDepth 20000 in
theorem ggX10_partings_X10_allKnots : GoodIn wsX10_partings wsX10_allKnots := goodIn_r _ [42, 24, 43, 44, 45, 46, 47, 48, 49, 50, 51, 52, 53, 54, 55, 56, 57, 58, 59, 60, 61, 62, 63, 64, 65, 66, 67, 68, 69, 70, 71, 72, 73, 74, 75] (by decide +kernel) (by decide +kernel)
set_option maxRecDepth 20000 in
theorem gX10_partings_X10_allKnots : GoodIn wsX10_partings (wsV RX10 186 RX10 yX10_allKnots wsX10_allKnots) := goodIn_app (goodIn_of _ (by decide +kernel)) ggX10_partings_X10_allKnots
theorem dX10_partings_0 : decode cX10_partings 0 = .ok (.iload_n 1, 1) := by decide +kernel
theorem dX10_partings_1 : decode cX10_partings 1 = .ok (.invokestatic 100, 3) := by decide +kernel
theorem dX10_partings_4 : decode cX10_partings 4 = .ok (.ifCond .eq 12, 3) := by decide +kernel
theorem dX10_partings_7 : decode cX10_partings 7 = .ok (.iload_n 2, 1) := by decide +kernel
theorem dX10_partings_8 : decode cX10_partings 8 = .ok (.iconst 0, 1) := by decide +kernel
theorem dX10_partings_9 : decode cX10_partings 9 = .ok (.iconst 2, 1) := by decide +kernel
theorem dX10_partings_10 : decode cX10_partings 10 = .ok (.invokestatic 95, 3) := by decide +kernel
theorem dX10_partings_13 : decode cX10_partings 13 = .ok (.ifCond .ne 12, 3) := by decide +kernel
theorem dX10_partings_16 : decode cX10_partings 16 = .ok (.aload_n 0, 1) := by decide +kernel
theorem dX10_partings_17 : decode cX10_partings 17 = .ok (.bipush (-2), 2) := by decide +kernel
theorem dX10_partings_19 : decode cX10_partings 19 = .ok (.bipush (-10), 2) := by decide +kernel
theorem dX10_partings_21 : decode cX10_partings 21 = .ok (.invokevirtual 164, 3) := by decide +kernel
theorem dX10_partings_24 : decode cX10_partings 24 = .ok (.ireturn, 1) := by decide +kernel
theorem dX10_partings_25 : decode cX10_partings 25 = .ok (.aload_n 0, 1) := by decide +kernel
theorem dX10_partings_26 : decode cX10_partings 26 = .ok (.iload_n 1, 1) := by decide +kernel
theorem dX10_partings_27 : decode cX10_partings 27 = .ok (.iconst 0, 1) := by decide +kernel
theorem dX10_partings_28 : decode cX10_partings 28 = .ok (.invokevirtual 183, 3) := by decide +kernel
theorem dX10_partings_31 : decode cX10_partings 31 = .ok (.aload_n 0, 1) := by decide +kernel
theorem dX10_partings_32 : decode cX10_partings 32 = .ok (.invokevirtual 186, 3) := by decide +kernel
theorem dX10_partings_35 : decode cX10_partings 35 = .ok (.istore_n 3, 1) := by decide +kernel
theorem dX10_partings_36 : decode cX10_partings 36 = .ok (.iload_n 2, 1) := by decide +kernel
theorem dX10_partings_37 : decode cX10_partings 37 = .ok (.ifCond .ne 12, 3) := by decide +kernel
theorem dX10_partings_40 : decode cX10_partings 40 = .ok (.aload_n 0, 1) := by decide +kernel
theorem dX10_partings_41 : decode cX10_partings 41 = .ok (.getfield 60, 3) := by decide +kernel
theorem dX10_partings_44 : decode cX10_partings 44 = .ok (.iload_n 3, 1) := by decide +kernel
theorem dX10_partings_45 : decode cX10_partings 45 = .ok (.iaload, 1) := by decide +kernel
theorem dX10_partings_46 : decode cX10_partings 46 = .ok (.goto 36, 3) := by decide +kernel
theorem dX10_partings_49 : decode cX10_partings 49 = .ok (.aload_n 0, 1) := by decide +kernel
theorem dX10_partings_50 : decode cX10_partings 50 = .ok (.getfield 60, 3) := by decide +kernel
theorem dX10_partings_53 : decode cX10_partings 53 = .ok (.iload_n 3, 1) := by decide +kernel
theorem dX10_partings_54 : decode cX10_partings 54 = .ok (.iaload, 1) := by decide +kernel
theorem dX10_partings_55 : decode cX10_partings 55 = .ok (.ifCond .ne 7, 3) := by decide +kernel
theorem dX10_partings_58 : decode cX10_partings 58 = .ok (.iconst (-1), 1) := by decide +kernel
theorem dX10_partings_59 : decode cX10_partings 59 = .ok (.goto 23, 3) := by decide +kernel
theorem dX10_partings_62 : decode cX10_partings 62 = .ok (.iload_n 2, 1) := by decide +kernel
theorem dX10_partings_63 : decode cX10_partings 63 = .ok (.iconst 1, 1) := by decide +kernel
theorem dX10_partings_64 : decode cX10_partings 64 = .ok (.if_icmp .ne 12, 3) := by decide +kernel
theorem dX10_partings_67 : decode cX10_partings 67 = .ok (.aload_n 0, 1) := by decide +kernel
theorem dX10_partings_68 : decode cX10_partings 68 = .ok (.getfield 63, 3) := by decide +kernel
theorem dX10_partings_71 : decode cX10_partings 71 = .ok (.iload_n 3, 1) := by decide +kernel
theorem dX10_partings_72 : decode cX10_partings 72 = .ok (.iaload, 1) := by decide +kernel
theorem dX10_partings_73 : decode cX10_partings 73 = .ok (.goto 9, 3) := by decide +kernel
theorem dX10_partings_76 : decode cX10_partings 76 = .ok (.aload_n 0, 1) := by decide +kernel
theorem dX10_partings_77 : decode cX10_partings 77 = .ok (.getfield 66, 3) := by decide +kernel
theorem dX10_partings_80 : decode cX10_partings 80 = .ok (.iload_n 3, 1) := by decide +kernel
theorem dX10_partings_81 : decode cX10_partings 81 = .ok (.iaload, 1) := by decide +kernel
theorem dX10_partings_82 : decode cX10_partings 82 = .ok (.ireturn, 1) := by decide +kernel
theorem dX10_common_0 : decode cX10_common 0 = .ok (.iload_n 0, 1) := by decide +kernel
theorem dX10_common_1 : decode cX10_common 1 = .ok (.istore_n 2, 1) := by decide +kernel
theorem dX10_common_2 : decode cX10_common 2 = .ok (.iload_n 1, 1) := by decide +kernel
theorem dX10_common_3 : decode cX10_common 3 = .ok (.istore_n 3, 1) := by decide +kernel
theorem dX10_common_4 : decode cX10_common 4 = .ok (.iload_n 3, 1) := by decide +kernel
theorem dX10_common_5 : decode cX10_common 5 = .ok (.ifCond .eq 16, 3) := by decide +kernel
theorem dX10_common_8 : decode cX10_common 8 = .ok (.iload_n 2, 1) := by decide +kernel
theorem dX10_common_9 : decode cX10_common 9 = .ok (.iload_n 3, 1) := by decide +kernel
theorem dX10_common_10 : decode cX10_common 10 = .ok (.irem, 1) := by decide +kernel
theorem dX10_common_11 : decode cX10_common 11 = .ok (.istore 4, 2) := by decide +kernel
theorem dX10_common_13 : decode cX10_common 13 = .ok (.iload_n 3, 1) := by decide +kernel
theorem dX10_common_14 : decode cX10_common 14 = .ok (.istore_n 2, 1) := by decide +kernel
theorem dX10_common_15 : decode cX10_common 15 = .ok (.iload 4, 2) := by decide +kernel
theorem dX10_common_17 : decode cX10_common 17 = .ok (.istore_n 3, 1) := by decide +kernel
theorem dX10_common_18 : decode cX10_common 18 = .ok (.goto (-14), 3) := by decide +kernel
theorem dX10_common_21 : decode cX10_common 21 = .ok (.iload_n 2, 1) := by decide +kernel
theorem dX10_common_22 : decode cX10_common 22 = .ok (.ireturn, 1) := by decide +kernel
set_option maxRecDepth 20000 in
theorem ggX10_together_X10_isRule : GoodIn wsX10_together wsX10_isRule := goodIn_r _ [7, 8, 9, 6, 10] (by decide +kernel) (by decide +kernel)
set_option maxRecDepth 20000 in
theorem gX10_together_X10_isRule : GoodIn wsX10_together (va_wsS RX10 100 yX10_isRule wsX10_isRule) := goodIn_app (goodIn_of _ (by decide +kernel)) ggX10_together_X10_isRule
set_option maxRecDepth 20000 in
theorem ggX10_together_X10_isKnot : GoodIn wsX10_together wsX10_isKnot := goodIn_r _ [14, 15, 8, 9, 6, 10, 48, 49, 50, 51, 52, 53, 54, 55, 56, 57, 58, 59, 60, 61, 62, 63, 64, 65, 66, 67, 68, 69, 70, 71, 72, 73, 74, 75, 76, 77, 78, 79, 80] (by decide +kernel) (by decide +kernel)
set_option maxRecDepth 20000 in
theorem gX10_together_X10_isKnot : GoodIn wsX10_together (wsV RX10 177 RX10 yX10_isKnot wsX10_isKnot) := goodIn_app (goodIn_of _ (by decide +kernel)) ggX10_together_X10_isKnot
set_option maxRecDepth 20000 in
theorem ggX10_together_X10_refuse : GoodIn wsX10_together wsX10_refuse := goodIn_r _ [19, 20, 48, 49, 50, 51, 52, 53, 54, 55, 56, 57, 58, 59, 60, 61, 62, 63, 64, 65, 66, 67, 68, 69, 70, 71, 72, 73, 74, 75, 76, 77, 78, 79, 80] (by decide +kernel) (by decide +kernel)
set_option maxRecDepth 20000 in
theorem gX10_together_X10_refuse : GoodIn wsX10_together (wsV RX10 84 RX10 yX10_refuse wsX10_refuse) := goodIn_app (goodIn_of _ (by decide +kernel)) ggX10_together_X10_refuse
set_option maxRecDepth 20000 in
theorem ggX10_together_X10_findParts : GoodIn wsX10_together wsX10_findParts := goodIn_r _ [24, 1, 25, 26, 15, 27, 28, 29, 6, 30, 31, 32, 33, 34, 35, 36, 37, 38, 39, 40, 8, 9, 10, 48, 49, 50, 51, 52, 53, 54, 55, 56, 57, 58, 59, 60, 61, 62, 63, 64, 65, 66, 67, 68, 69, 70, 71, 72, 73, 74, 75, 76, 77, 78, 79, 80] (by decide +kernel) (by decide +kernel)
set_option maxRecDepth 20000 in
theorem gX10_together_X10_findParts : GoodIn wsX10_together (wsV RX10 183 RX10 yX10_findParts wsX10_findParts) := goodIn_app (goodIn_of _ (by decide +kernel)) ggX10_together_X10_findParts
set_option maxRecDepth 20000 in
theorem ggX10_together_X10_allKnots : GoodIn wsX10_together wsX10_allKnots := goodIn_r _ [44, 15, 48, 49, 50, 51, 52, 53, 54, 55, 56, 57, 58, 59, 60, 61, 62, 63, 64, 65, 66, 67, 68, 69, 70, 71, 72, 73, 74, 75, 76, 77, 78, 79, 80] (by decide +kernel) (by decide +kernel)
set_option maxRecDepth 20000 in
theorem gX10_together_X10_allKnots : GoodIn wsX10_together (wsV RX10 186 RX10 yX10_allKnots wsX10_allKnots) := goodIn_app (goodIn_of _ (by decide +kernel)) ggX10_together_X10_allKnots
set_option maxRecDepth 20000 in
theorem ggX10_together_X10_common : GoodIn wsX10_together wsX10_common := goodIn_r _ [47] (by decide +kernel) (by decide +kernel)
set_option maxRecDepth 20000 in
theorem gX10_together_X10_common : GoodIn wsX10_together (va_wsS RX10 189 yX10_common wsX10_common) := goodIn_app (goodIn_of _ (by decide +kernel)) ggX10_together_X10_common
theorem dX10_together_0 : decode cX10_together 0 = .ok (.iload_n 1, 1) := by decide +kernel
theorem dX10_together_1 : decode cX10_together 1 = .ok (.invokestatic 100, 3) := by decide +kernel
theorem dX10_together_4 : decode cX10_together 4 = .ok (.ifCond .eq 24, 3) := by decide +kernel
theorem dX10_together_7 : decode cX10_together 7 = .ok (.aload_n 0, 1) := by decide +kernel
theorem dX10_together_8 : decode cX10_together 8 = .ok (.iload_n 2, 1) := by decide +kernel
theorem dX10_together_9 : decode cX10_together 9 = .ok (.invokevirtual 177, 3) := by decide +kernel
theorem dX10_together_12 : decode cX10_together 12 = .ok (.ifCond .eq 16, 3) := by decide +kernel
theorem dX10_together_15 : decode cX10_together 15 = .ok (.aload_n 0, 1) := by decide +kernel
theorem dX10_together_16 : decode cX10_together 16 = .ok (.iload_n 3, 1) := by decide +kernel
theorem dX10_together_17 : decode cX10_together 17 = .ok (.invokevirtual 177, 3) := by decide +kernel
theorem dX10_together_20 : decode cX10_together 20 = .ok (.ifCond .eq 8, 3) := by decide +kernel
theorem dX10_together_23 : decode cX10_together 23 = .ok (.iload_n 2, 1) := by decide +kernel
theorem dX10_together_24 : decode cX10_together 24 = .ok (.iload_n 3, 1) := by decide +kernel
theorem dX10_together_25 : decode cX10_together 25 = .ok (.if_icmp .ne 10, 3) := by decide +kernel
theorem dX10_together_28 : decode cX10_together 28 = .ok (.aload_n 0, 1) := by decide +kernel
theorem dX10_together_29 : decode cX10_together 29 = .ok (.bipush (-2), 2) := by decide +kernel
theorem dX10_together_31 : decode cX10_together 31 = .ok (.invokevirtual 84, 3) := by decide +kernel
theorem dX10_together_34 : decode cX10_together 34 = .ok (.ireturn, 1) := by decide +kernel
theorem dX10_together_35 : decode cX10_together 35 = .ok (.aload_n 0, 1) := by decide +kernel
theorem dX10_together_36 : decode cX10_together 36 = .ok (.iload_n 1, 1) := by decide +kernel
theorem dX10_together_37 : decode cX10_together 37 = .ok (.iconst 0, 1) := by decide +kernel
theorem dX10_together_38 : decode cX10_together 38 = .ok (.invokevirtual 183, 3) := by decide +kernel
theorem dX10_together_41 : decode cX10_together 41 = .ok (.aload_n 0, 1) := by decide +kernel
theorem dX10_together_42 : decode cX10_together 42 = .ok (.getfield 60, 3) := by decide +kernel
theorem dX10_together_45 : decode cX10_together 45 = .ok (.aload_n 0, 1) := by decide +kernel
theorem dX10_together_46 : decode cX10_together 46 = .ok (.invokevirtual 186, 3) := by decide +kernel
theorem dX10_together_49 : decode cX10_together 49 = .ok (.iaload, 1) := by decide +kernel
theorem dX10_together_50 : decode cX10_together 50 = .ok (.istore 4, 2) := by decide +kernel
theorem dX10_together_52 : decode cX10_together 52 = .ok (.iload 4, 2) := by decide +kernel
theorem dX10_together_54 : decode cX10_together 54 = .ok (.ifCond .ne 10, 3) := by decide +kernel
theorem dX10_together_57 : decode cX10_together 57 = .ok (.aload_n 0, 1) := by decide +kernel
theorem dX10_together_58 : decode cX10_together 58 = .ok (.bipush (-3), 2) := by decide +kernel
theorem dX10_together_60 : decode cX10_together 60 = .ok (.invokevirtual 84, 3) := by decide +kernel
theorem dX10_together_63 : decode cX10_together 63 = .ok (.ireturn, 1) := by decide +kernel
theorem dX10_together_64 : decode cX10_together 64 = .ok (.aload_n 0, 1) := by decide +kernel
theorem dX10_together_65 : decode cX10_together 65 = .ok (.iload_n 1, 1) := by decide +kernel
theorem dX10_together_66 : decode cX10_together 66 = .ok (.iconst 1, 1) := by decide +kernel
theorem dX10_together_67 : decode cX10_together 67 = .ok (.iload_n 2, 1) := by decide +kernel
theorem dX10_together_68 : decode cX10_together 68 = .ok (.ishl, 1) := by decide +kernel
theorem dX10_together_69 : decode cX10_together 69 = .ok (.iconst 1, 1) := by decide +kernel
theorem dX10_together_70 : decode cX10_together 70 = .ok (.iload_n 3, 1) := by decide +kernel
theorem dX10_together_71 : decode cX10_together 71 = .ok (.ishl, 1) := by decide +kernel
theorem dX10_together_72 : decode cX10_together 72 = .ok (.ior, 1) := by decide +kernel
theorem dX10_together_73 : decode cX10_together 73 = .ok (.invokevirtual 183, 3) := by decide +kernel
theorem dX10_together_76 : decode cX10_together 76 = .ok (.aload_n 0, 1) := by decide +kernel
theorem dX10_together_77 : decode cX10_together 77 = .ok (.getfield 60, 3) := by decide +kernel
theorem dX10_together_80 : decode cX10_together 80 = .ok (.aload_n 0, 1) := by decide +kernel
theorem dX10_together_81 : decode cX10_together 81 = .ok (.invokevirtual 186, 3) := by decide +kernel
theorem dX10_together_84 : decode cX10_together 84 = .ok (.iaload, 1) := by decide +kernel
theorem dX10_together_85 : decode cX10_together 85 = .ok (.istore 5, 2) := by decide +kernel
theorem dX10_together_87 : decode cX10_together 87 = .ok (.iload 5, 2) := by decide +kernel
theorem dX10_together_89 : decode cX10_together 89 = .ok (.iload 4, 2) := by decide +kernel
theorem dX10_together_91 : decode cX10_together 91 = .ok (.invokestatic 189, 3) := by decide +kernel
theorem dX10_together_94 : decode cX10_together 94 = .ok (.istore 6, 2) := by decide +kernel
theorem dX10_together_96 : decode cX10_together 96 = .ok (.aload_n 0, 1) := by decide +kernel
theorem dX10_together_97 : decode cX10_together 97 = .ok (.iload 5, 2) := by decide +kernel
theorem dX10_together_99 : decode cX10_together 99 = .ok (.iload 6, 2) := by decide +kernel
theorem dX10_together_101 : decode cX10_together 101 = .ok (.idiv, 1) := by decide +kernel
theorem dX10_together_102 : decode cX10_together 102 = .ok (.putfield 192, 3) := by decide +kernel
theorem dX10_together_105 : decode cX10_together 105 = .ok (.aload_n 0, 1) := by decide +kernel
theorem dX10_together_106 : decode cX10_together 106 = .ok (.iload 4, 2) := by decide +kernel
theorem dX10_together_108 : decode cX10_together 108 = .ok (.iload 6, 2) := by decide +kernel
theorem dX10_together_110 : decode cX10_together 110 = .ok (.idiv, 1) := by decide +kernel
theorem dX10_together_111 : decode cX10_together 111 = .ok (.putfield 20, 3) := by decide +kernel
theorem dX10_together_114 : decode cX10_together 114 = .ok (.iconst 1, 1) := by decide +kernel
theorem dX10_together_115 : decode cX10_together 115 = .ok (.ireturn, 1) := by decide +kernel
theorem dX10_states_0 : decode cX10_states 0 = .ok (.iconst 1, 1) := by decide +kernel
theorem dX10_states_1 : decode cX10_states 1 = .ok (.iconst 2, 1) := by decide +kernel
theorem dX10_states_2 : decode cX10_states 2 = .ok (.aload_n 0, 1) := by decide +kernel
theorem dX10_states_3 : decode cX10_states 3 = .ok (.getfield 7, 3) := by decide +kernel
theorem dX10_states_6 : decode cX10_states 6 = .ok (.iconst 1, 1) := by decide +kernel
theorem dX10_states_7 : decode cX10_states 7 = .ok (.iaload, 1) := by decide +kernel
theorem dX10_states_8 : decode cX10_states 8 = .ok (.imul, 1) := by decide +kernel
theorem dX10_states_9 : decode cX10_states 9 = .ok (.ishl, 1) := by decide +kernel
theorem dX10_states_10 : decode cX10_states 10 = .ok (.ireturn, 1) := by decide +kernel
theorem dX10_whereIn_0 : decode cX10_whereIn 0 = .ok (.iload_n 1, 1) := by decide +kernel
theorem dX10_whereIn_1 : decode cX10_whereIn 1 = .ok (.iconst 2, 1) := by decide +kernel
theorem dX10_whereIn_2 : decode cX10_whereIn 2 = .ok (.aload_n 0, 1) := by decide +kernel
theorem dX10_whereIn_3 : decode cX10_whereIn 3 = .ok (.getfield 7, 3) := by decide +kernel
theorem dX10_whereIn_6 : decode cX10_whereIn 6 = .ok (.iconst 1, 1) := by decide +kernel
theorem dX10_whereIn_7 : decode cX10_whereIn 7 = .ok (.iaload, 1) := by decide +kernel
theorem dX10_whereIn_8 : decode cX10_whereIn 8 = .ok (.iconst 1, 1) := by decide +kernel
theorem dX10_whereIn_9 : decode cX10_whereIn 9 = .ok (.isub, 1) := by decide +kernel
theorem dX10_whereIn_10 : decode cX10_whereIn 10 = .ok (.iload_n 2, 1) := by decide +kernel
theorem dX10_whereIn_11 : decode cX10_whereIn 11 = .ok (.isub, 1) := by decide +kernel
theorem dX10_whereIn_12 : decode cX10_whereIn 12 = .ok (.imul, 1) := by decide +kernel
theorem dX10_whereIn_13 : decode cX10_whereIn 13 = .ok (.ishr, 1) := by decide +kernel
theorem dX10_whereIn_14 : decode cX10_whereIn 14 = .ok (.iconst 3, 1) := by decide +kernel
theorem dX10_whereIn_15 : decode cX10_whereIn 15 = .ok (.iand, 1) := by decide +kernel
theorem dX10_whereIn_16 : decode cX10_whereIn 16 = .ok (.ireturn, 1) := by decide +kernel
theorem dX10_stateOf_0 : decode cX10_stateOf 0 = .ok (.iconst 0, 1) := by decide +kernel
theorem dX10_stateOf_1 : decode cX10_stateOf 1 = .ok (.istore_n 2, 1) := by decide +kernel
theorem dX10_stateOf_2 : decode cX10_stateOf 2 = .ok (.iconst 0, 1) := by decide +kernel
theorem dX10_stateOf_3 : decode cX10_stateOf 3 = .ok (.istore_n 3, 1) := by decide +kernel
theorem dX10_stateOf_4 : decode cX10_stateOf 4 = .ok (.iload_n 3, 1) := by decide +kernel
theorem dX10_stateOf_5 : decode cX10_stateOf 5 = .ok (.aload_n 0, 1) := by decide +kernel
theorem dX10_stateOf_6 : decode cX10_stateOf 6 = .ok (.getfield 7, 3) := by decide +kernel
theorem dX10_stateOf_9 : decode cX10_stateOf 9 = .ok (.iconst 1, 1) := by decide +kernel
theorem dX10_stateOf_10 : decode cX10_stateOf 10 = .ok (.iaload, 1) := by decide +kernel
theorem dX10_stateOf_11 : decode cX10_stateOf 11 = .ok (.if_icmp .ge 22, 3) := by decide +kernel
theorem dX10_stateOf_14 : decode cX10_stateOf 14 = .ok (.iconst 4, 1) := by decide +kernel
theorem dX10_stateOf_15 : decode cX10_stateOf 15 = .ok (.iload_n 2, 1) := by decide +kernel
theorem dX10_stateOf_16 : decode cX10_stateOf 16 = .ok (.imul, 1) := by decide +kernel
theorem dX10_stateOf_17 : decode cX10_stateOf 17 = .ok (.aload_n 0, 1) := by decide +kernel
theorem dX10_stateOf_18 : decode cX10_stateOf 18 = .ok (.getfield 7, 3) := by decide +kernel
theorem dX10_stateOf_21 : decode cX10_stateOf 21 = .ok (.iload_n 1, 1) := by decide +kernel
theorem dX10_stateOf_22 : decode cX10_stateOf 22 = .ok (.iload_n 3, 1) := by decide +kernel
theorem dX10_stateOf_23 : decode cX10_stateOf 23 = .ok (.iadd, 1) := by decide +kernel
theorem dX10_stateOf_24 : decode cX10_stateOf 24 = .ok (.iaload, 1) := by decide +kernel
theorem dX10_stateOf_25 : decode cX10_stateOf 25 = .ok (.iadd, 1) := by decide +kernel
theorem dX10_stateOf_26 : decode cX10_stateOf 26 = .ok (.istore_n 2, 1) := by decide +kernel
theorem dX10_stateOf_27 : decode cX10_stateOf 27 = .ok (.iinc 3 1, 3) := by decide +kernel
theorem dX10_stateOf_30 : decode cX10_stateOf 30 = .ok (.goto (-26), 3) := by decide +kernel
theorem dX10_stateOf_33 : decode cX10_stateOf 33 = .ok (.iload_n 2, 1) := by decide +kernel
theorem dX10_stateOf_34 : decode cX10_stateOf 34 = .ok (.ireturn, 1) := by decide +kernel
set_option maxRecDepth 20000 in
theorem ggX10_isStep_X10_whereIn : GoodIn wsX10_isStep wsX10_whereIn := goodIn_r _ [7, 2, 25, 26, 27, 28, 29, 30, 31, 32, 33, 34, 35, 36, 37, 38, 39, 40, 41, 42, 43, 44, 45, 46, 47, 48, 49, 50, 51, 52, 53, 54, 55, 56, 57] (by decide +kernel) (by decide +kernel)
set_option maxRecDepth 20000 in
theorem gX10_isStep_X10_whereIn : GoodIn wsX10_isStep (wsV RX10 195 RX10 yX10_whereIn wsX10_whereIn) := goodIn_app (goodIn_of _ (by decide +kernel)) ggX10_isStep_X10_whereIn
set_option maxRecDepth 20000 in
theorem ggX10_isStep_X10_hasWay : GoodIn wsX10_isStep wsX10_hasWay := goodIn_r _ [11, 2, 25, 26, 27, 28, 29, 30, 31, 32, 33, 34, 35, 36, 37, 38, 39, 40, 41, 42, 43, 44, 45, 46, 47, 48, 49, 50, 51, 52, 53, 54, 55, 56, 57] (by decide +kernel) (by decide +kernel)
set_option maxRecDepth 20000 in
theorem gX10_isStep_X10_hasWay : GoodIn wsX10_isStep (wsV RX10 107 RX10 yX10_hasWay wsX10_hasWay) := goodIn_app (goodIn_of _ (by decide +kernel)) ggX10_isStep_X10_hasWay
set_option maxRecDepth 20000 in
theorem ggX10_isStep_X10_may : GoodIn wsX10_isStep wsX10_may := goodIn_r _ [15, 2, 16, 17, 6, 18, 19, 20, 21, 22, 23, 24, 25, 26, 27, 28, 29, 30, 31, 32, 33, 34, 35, 36, 37, 38, 39, 40, 41, 42, 43, 44, 45, 46, 47, 48, 49, 50, 51, 52, 53, 54, 55, 56, 57] (by decide +kernel) (by decide +kernel)
set_option maxRecDepth 20000 in
theorem gX10_isStep_X10_may : GoodIn wsX10_isStep (wsV RX10 103 RX10 yX10_may wsX10_may) := goodIn_app (goodIn_of _ (by decide +kernel)) ggX10_isStep_X10_may
theorem dX10_isStep_0 : decode cX10_isStep 0 = .ok (.iconst 0, 1) := by decide +kernel
theorem dX10_isStep_1 : decode cX10_isStep 1 = .ok (.istore 4, 2) := by decide +kernel
theorem dX10_isStep_3 : decode cX10_isStep 3 = .ok (.iload 4, 2) := by decide +kernel
theorem dX10_isStep_5 : decode cX10_isStep 5 = .ok (.bipush 16, 2) := by decide +kernel
theorem dX10_isStep_7 : decode cX10_isStep 7 = .ok (.if_icmp .ge 17, 3) := by decide +kernel
theorem dX10_isStep_10 : decode cX10_isStep 10 = .ok (.aload_n 0, 1) := by decide +kernel
theorem dX10_isStep_11 : decode cX10_isStep 11 = .ok (.getfield 75, 3) := by decide +kernel
theorem dX10_isStep_14 : decode cX10_isStep 14 = .ok (.iload 4, 2) := by decide +kernel
theorem dX10_isStep_16 : decode cX10_isStep 16 = .ok (.iconst 0, 1) := by decide +kernel
theorem dX10_isStep_17 : decode cX10_isStep 17 = .ok (.iastore, 1) := by decide +kernel
theorem dX10_isStep_18 : decode cX10_isStep 18 = .ok (.iinc 4 1, 3) := by decide +kernel
theorem dX10_isStep_21 : decode cX10_isStep 21 = .ok (.goto (-18), 3) := by decide +kernel
theorem dX10_isStep_24 : decode cX10_isStep 24 = .ok (.iconst 0, 1) := by decide +kernel
theorem dX10_isStep_25 : decode cX10_isStep 25 = .ok (.istore 4, 2) := by decide +kernel
theorem dX10_isStep_27 : decode cX10_isStep 27 = .ok (.iload 4, 2) := by decide +kernel
theorem dX10_isStep_29 : decode cX10_isStep 29 = .ok (.aload_n 0, 1) := by decide +kernel
theorem dX10_isStep_30 : decode cX10_isStep 30 = .ok (.getfield 7, 3) := by decide +kernel
theorem dX10_isStep_33 : decode cX10_isStep 33 = .ok (.iconst 1, 1) := by decide +kernel
theorem dX10_isStep_34 : decode cX10_isStep 34 = .ok (.iaload, 1) := by decide +kernel
theorem dX10_isStep_35 : decode cX10_isStep 35 = .ok (.if_icmp .ge 63, 3) := by decide +kernel
theorem dX10_isStep_38 : decode cX10_isStep 38 = .ok (.aload_n 0, 1) := by decide +kernel
theorem dX10_isStep_39 : decode cX10_isStep 39 = .ok (.iload_n 2, 1) := by decide +kernel
theorem dX10_isStep_40 : decode cX10_isStep 40 = .ok (.iload 4, 2) := by decide +kernel
theorem dX10_isStep_42 : decode cX10_isStep 42 = .ok (.invokevirtual 195, 3) := by decide +kernel
theorem dX10_isStep_45 : decode cX10_isStep 45 = .ok (.istore 5, 2) := by decide +kernel
theorem dX10_isStep_47 : decode cX10_isStep 47 = .ok (.aload_n 0, 1) := by decide +kernel
theorem dX10_isStep_48 : decode cX10_isStep 48 = .ok (.iload_n 3, 1) := by decide +kernel
theorem dX10_isStep_49 : decode cX10_isStep 49 = .ok (.iload 4, 2) := by decide +kernel
theorem dX10_isStep_51 : decode cX10_isStep 51 = .ok (.invokevirtual 195, 3) := by decide +kernel
theorem dX10_isStep_54 : decode cX10_isStep 54 = .ok (.istore 6, 2) := by decide +kernel
theorem dX10_isStep_56 : decode cX10_isStep 56 = .ok (.iload 5, 2) := by decide +kernel
theorem dX10_isStep_58 : decode cX10_isStep 58 = .ok (.iload 6, 2) := by decide +kernel
theorem dX10_isStep_60 : decode cX10_isStep 60 = .ok (.if_icmp .eq 32, 3) := by decide +kernel
theorem dX10_isStep_63 : decode cX10_isStep 63 = .ok (.aload_n 0, 1) := by decide +kernel
theorem dX10_isStep_64 : decode cX10_isStep 64 = .ok (.iload 5, 2) := by decide +kernel
theorem dX10_isStep_66 : decode cX10_isStep 66 = .ok (.iload 6, 2) := by decide +kernel
theorem dX10_isStep_68 : decode cX10_isStep 68 = .ok (.invokevirtual 107, 3) := by decide +kernel
theorem dX10_isStep_71 : decode cX10_isStep 71 = .ok (.ifCond .ne 5, 3) := by decide +kernel
theorem dX10_isStep_74 : decode cX10_isStep 74 = .ok (.iconst 0, 1) := by decide +kernel
theorem dX10_isStep_75 : decode cX10_isStep 75 = .ok (.ireturn, 1) := by decide +kernel
theorem dX10_isStep_76 : decode cX10_isStep 76 = .ok (.aload_n 0, 1) := by decide +kernel
theorem dX10_isStep_77 : decode cX10_isStep 77 = .ok (.getfield 75, 3) := by decide +kernel
theorem dX10_isStep_80 : decode cX10_isStep 80 = .ok (.iconst 4, 1) := by decide +kernel
theorem dX10_isStep_81 : decode cX10_isStep 81 = .ok (.iload 5, 2) := by decide +kernel
theorem dX10_isStep_83 : decode cX10_isStep 83 = .ok (.imul, 1) := by decide +kernel
theorem dX10_isStep_84 : decode cX10_isStep 84 = .ok (.iload 6, 2) := by decide +kernel
theorem dX10_isStep_86 : decode cX10_isStep 86 = .ok (.iadd, 1) := by decide +kernel
theorem dX10_isStep_87 : decode cX10_isStep 87 = .ok (.dup2, 1) := by decide +kernel
theorem dX10_isStep_88 : decode cX10_isStep 88 = .ok (.iaload, 1) := by decide +kernel
theorem dX10_isStep_89 : decode cX10_isStep 89 = .ok (.iconst 1, 1) := by decide +kernel
theorem dX10_isStep_90 : decode cX10_isStep 90 = .ok (.iadd, 1) := by decide +kernel
theorem dX10_isStep_91 : decode cX10_isStep 91 = .ok (.iastore, 1) := by decide +kernel
theorem dX10_isStep_92 : decode cX10_isStep 92 = .ok (.iinc 4 1, 3) := by decide +kernel
theorem dX10_isStep_95 : decode cX10_isStep 95 = .ok (.goto (-68), 3) := by decide +kernel
theorem dX10_isStep_98 : decode cX10_isStep 98 = .ok (.iconst 0, 1) := by decide +kernel
theorem dX10_isStep_99 : decode cX10_isStep 99 = .ok (.istore 4, 2) := by decide +kernel
theorem dX10_isStep_101 : decode cX10_isStep 101 = .ok (.iload 4, 2) := by decide +kernel
theorem dX10_isStep_103 : decode cX10_isStep 103 = .ok (.bipush 16, 2) := by decide +kernel
theorem dX10_isStep_105 : decode cX10_isStep 105 = .ok (.if_icmp .ge 36, 3) := by decide +kernel
theorem dX10_isStep_108 : decode cX10_isStep 108 = .ok (.aload_n 0, 1) := by decide +kernel
theorem dX10_isStep_109 : decode cX10_isStep 109 = .ok (.getfield 75, 3) := by decide +kernel
theorem dX10_isStep_112 : decode cX10_isStep 112 = .ok (.iload 4, 2) := by decide +kernel
theorem dX10_isStep_114 : decode cX10_isStep 114 = .ok (.iaload, 1) := by decide +kernel
theorem dX10_isStep_115 : decode cX10_isStep 115 = .ok (.ifCond .le 20, 3) := by decide +kernel
theorem dX10_isStep_118 : decode cX10_isStep 118 = .ok (.aload_n 0, 1) := by decide +kernel
theorem dX10_isStep_119 : decode cX10_isStep 119 = .ok (.iload_n 1, 1) := by decide +kernel
theorem dX10_isStep_120 : decode cX10_isStep 120 = .ok (.aload_n 0, 1) := by decide +kernel
theorem dX10_isStep_121 : decode cX10_isStep 121 = .ok (.getfield 75, 3) := by decide +kernel
theorem dX10_isStep_124 : decode cX10_isStep 124 = .ok (.iload 4, 2) := by decide +kernel
theorem dX10_isStep_126 : decode cX10_isStep 126 = .ok (.iaload, 1) := by decide +kernel
theorem dX10_isStep_127 : decode cX10_isStep 127 = .ok (.invokevirtual 103, 3) := by decide +kernel
theorem dX10_isStep_130 : decode cX10_isStep 130 = .ok (.ifCond .ne 5, 3) := by decide +kernel
theorem dX10_isStep_133 : decode cX10_isStep 133 = .ok (.iconst 0, 1) := by decide +kernel
theorem dX10_isStep_134 : decode cX10_isStep 134 = .ok (.ireturn, 1) := by decide +kernel
theorem dX10_isStep_135 : decode cX10_isStep 135 = .ok (.iinc 4 1, 3) := by decide +kernel
theorem dX10_isStep_138 : decode cX10_isStep 138 = .ok (.goto (-37), 3) := by decide +kernel
theorem dX10_isStep_141 : decode cX10_isStep 141 = .ok (.iconst 1, 1) := by decide +kernel
theorem dX10_isStep_142 : decode cX10_isStep 142 = .ok (.ireturn, 1) := by decide +kernel
set_option maxRecDepth 20000 in
theorem ggX10_findFar_X10_states : GoodIn wsX10_findFar wsX10_states := goodIn_r _ [7, 8, 35, 36, 37, 38, 39, 40, 41, 42, 43, 44, 45, 46, 47, 48, 49, 50, 51, 52, 53, 54, 55, 56, 57, 58, 59, 60, 61, 62, 63, 64, 65, 66, 67] (by decide +kernel) (by decide +kernel)
set_option maxRecDepth 20000 in
theorem gX10_findFar_X10_states : GoodIn wsX10_findFar (wsV RX10 198 RX10 yX10_states wsX10_states) := goodIn_app (goodIn_of _ (by decide +kernel)) ggX10_findFar_X10_states
set_option maxRecDepth 20000 in
theorem ggX10_findFar_X10_isStep : GoodIn wsX10_findFar wsX10_isStep := goodIn_r _ [12, 13, 8, 14, 15, 16, 6, 17, 18, 19, 20, 21, 22, 23, 24, 25, 26, 27, 28, 29, 30, 31, 32, 33, 34, 35, 36, 37, 38, 39, 40, 41, 42, 43, 44, 45, 46, 47, 48, 49, 50, 51, 52, 53, 54, 55, 56, 57, 58, 59, 60, 61, 62, 63, 64, 65, 66, 67] (by decide +kernel) (by decide +kernel)
set_option maxRecDepth 20000 in
theorem gX10_findFar_X10_isStep : GoodIn wsX10_findFar (wsV RX10 201 RX10 yX10_isStep wsX10_isStep) := goodIn_app (goodIn_of _ (by decide +kernel)) ggX10_findFar_X10_isStep
theorem dX10_findFar_0 : decode cX10_findFar 0 = .ok (.iconst 0, 1) := by decide +kernel
theorem dX10_findFar_1 : decode cX10_findFar 1 = .ok (.istore_n 3, 1) := by decide +kernel
theorem dX10_findFar_2 : decode cX10_findFar 2 = .ok (.iload_n 3, 1) := by decide +kernel
theorem dX10_findFar_3 : decode cX10_findFar 3 = .ok (.aload_n 0, 1) := by decide +kernel
theorem dX10_findFar_4 : decode cX10_findFar 4 = .ok (.invokevirtual 198, 3) := by decide +kernel
theorem dX10_findFar_7 : decode cX10_findFar 7 = .ok (.if_icmp .ge 18, 3) := by decide +kernel
theorem dX10_findFar_10 : decode cX10_findFar 10 = .ok (.aload_n 0, 1) := by decide +kernel
theorem dX10_findFar_11 : decode cX10_findFar 11 = .ok (.getfield 69, 3) := by decide +kernel
theorem dX10_findFar_14 : decode cX10_findFar 14 = .ok (.iload_n 3, 1) := by decide +kernel
theorem dX10_findFar_15 : decode cX10_findFar 15 = .ok (.sipush 9999, 3) := by decide +kernel
theorem dX10_findFar_18 : decode cX10_findFar 18 = .ok (.iastore, 1) := by decide +kernel
theorem dX10_findFar_19 : decode cX10_findFar 19 = .ok (.iinc 3 1, 3) := by decide +kernel
theorem dX10_findFar_22 : decode cX10_findFar 22 = .ok (.goto (-20), 3) := by decide +kernel
theorem dX10_findFar_25 : decode cX10_findFar 25 = .ok (.aload_n 0, 1) := by decide +kernel
theorem dX10_findFar_26 : decode cX10_findFar 26 = .ok (.getfield 69, 3) := by decide +kernel
theorem dX10_findFar_29 : decode cX10_findFar 29 = .ok (.iload_n 2, 1) := by decide +kernel
theorem dX10_findFar_30 : decode cX10_findFar 30 = .ok (.iconst 0, 1) := by decide +kernel
theorem dX10_findFar_31 : decode cX10_findFar 31 = .ok (.iastore, 1) := by decide +kernel
theorem dX10_findFar_32 : decode cX10_findFar 32 = .ok (.aload_n 0, 1) := by decide +kernel
theorem dX10_findFar_33 : decode cX10_findFar 33 = .ok (.getfield 72, 3) := by decide +kernel
theorem dX10_findFar_36 : decode cX10_findFar 36 = .ok (.iconst 0, 1) := by decide +kernel
theorem dX10_findFar_37 : decode cX10_findFar 37 = .ok (.iload_n 2, 1) := by decide +kernel
theorem dX10_findFar_38 : decode cX10_findFar 38 = .ok (.iastore, 1) := by decide +kernel
theorem dX10_findFar_39 : decode cX10_findFar 39 = .ok (.iconst 1, 1) := by decide +kernel
theorem dX10_findFar_40 : decode cX10_findFar 40 = .ok (.istore_n 3, 1) := by decide +kernel
theorem dX10_findFar_41 : decode cX10_findFar 41 = .ok (.iconst 0, 1) := by decide +kernel
theorem dX10_findFar_42 : decode cX10_findFar 42 = .ok (.istore 4, 2) := by decide +kernel
theorem dX10_findFar_44 : decode cX10_findFar 44 = .ok (.iload 4, 2) := by decide +kernel
theorem dX10_findFar_46 : decode cX10_findFar 46 = .ok (.iload_n 3, 1) := by decide +kernel
theorem dX10_findFar_47 : decode cX10_findFar 47 = .ok (.if_icmp .ge 89, 3) := by decide +kernel
theorem dX10_findFar_50 : decode cX10_findFar 50 = .ok (.iconst 0, 1) := by decide +kernel
theorem dX10_findFar_51 : decode cX10_findFar 51 = .ok (.istore 5, 2) := by decide +kernel
theorem dX10_findFar_53 : decode cX10_findFar 53 = .ok (.iload 5, 2) := by decide +kernel
theorem dX10_findFar_55 : decode cX10_findFar 55 = .ok (.aload_n 0, 1) := by decide +kernel
theorem dX10_findFar_56 : decode cX10_findFar 56 = .ok (.invokevirtual 198, 3) := by decide +kernel
theorem dX10_findFar_59 : decode cX10_findFar 59 = .ok (.if_icmp .ge 71, 3) := by decide +kernel
theorem dX10_findFar_62 : decode cX10_findFar 62 = .ok (.aload_n 0, 1) := by decide +kernel
theorem dX10_findFar_63 : decode cX10_findFar 63 = .ok (.getfield 69, 3) := by decide +kernel
theorem dX10_findFar_66 : decode cX10_findFar 66 = .ok (.iload 5, 2) := by decide +kernel
theorem dX10_findFar_68 : decode cX10_findFar 68 = .ok (.iaload, 1) := by decide +kernel
theorem dX10_findFar_69 : decode cX10_findFar 69 = .ok (.sipush 9999, 3) := by decide +kernel
theorem dX10_findFar_72 : decode cX10_findFar 72 = .ok (.if_icmp .ne 52, 3) := by decide +kernel
theorem dX10_findFar_75 : decode cX10_findFar 75 = .ok (.aload_n 0, 1) := by decide +kernel
theorem dX10_findFar_76 : decode cX10_findFar 76 = .ok (.iload_n 1, 1) := by decide +kernel
theorem dX10_findFar_77 : decode cX10_findFar 77 = .ok (.aload_n 0, 1) := by decide +kernel
theorem dX10_findFar_78 : decode cX10_findFar 78 = .ok (.getfield 72, 3) := by decide +kernel
theorem dX10_findFar_81 : decode cX10_findFar 81 = .ok (.iload 4, 2) := by decide +kernel
theorem dX10_findFar_83 : decode cX10_findFar 83 = .ok (.iaload, 1) := by decide +kernel
theorem dX10_findFar_84 : decode cX10_findFar 84 = .ok (.iload 5, 2) := by decide +kernel
theorem dX10_findFar_86 : decode cX10_findFar 86 = .ok (.invokevirtual 201, 3) := by decide +kernel
theorem dX10_findFar_89 : decode cX10_findFar 89 = .ok (.ifCond .eq 35, 3) := by decide +kernel
theorem dX10_findFar_92 : decode cX10_findFar 92 = .ok (.aload_n 0, 1) := by decide +kernel
theorem dX10_findFar_93 : decode cX10_findFar 93 = .ok (.getfield 69, 3) := by decide +kernel
theorem dX10_findFar_96 : decode cX10_findFar 96 = .ok (.iload 5, 2) := by decide +kernel
theorem dX10_findFar_98 : decode cX10_findFar 98 = .ok (.aload_n 0, 1) := by decide +kernel
theorem dX10_findFar_99 : decode cX10_findFar 99 = .ok (.getfield 69, 3) := by decide +kernel
theorem dX10_findFar_102 : decode cX10_findFar 102 = .ok (.aload_n 0, 1) := by decide +kernel
theorem dX10_findFar_103 : decode cX10_findFar 103 = .ok (.getfield 72, 3) := by decide +kernel
theorem dX10_findFar_106 : decode cX10_findFar 106 = .ok (.iload 4, 2) := by decide +kernel
theorem dX10_findFar_108 : decode cX10_findFar 108 = .ok (.iaload, 1) := by decide +kernel
theorem dX10_findFar_109 : decode cX10_findFar 109 = .ok (.iaload, 1) := by decide +kernel
theorem dX10_findFar_110 : decode cX10_findFar 110 = .ok (.iconst 1, 1) := by decide +kernel
theorem dX10_findFar_111 : decode cX10_findFar 111 = .ok (.iadd, 1) := by decide +kernel
theorem dX10_findFar_112 : decode cX10_findFar 112 = .ok (.iastore, 1) := by decide +kernel
theorem dX10_findFar_113 : decode cX10_findFar 113 = .ok (.aload_n 0, 1) := by decide +kernel
theorem dX10_findFar_114 : decode cX10_findFar 114 = .ok (.getfield 72, 3) := by decide +kernel
theorem dX10_findFar_117 : decode cX10_findFar 117 = .ok (.iload_n 3, 1) := by decide +kernel
theorem dX10_findFar_118 : decode cX10_findFar 118 = .ok (.iload 5, 2) := by decide +kernel
theorem dX10_findFar_120 : decode cX10_findFar 120 = .ok (.iastore, 1) := by decide +kernel
theorem dX10_findFar_121 : decode cX10_findFar 121 = .ok (.iinc 3 1, 3) := by decide +kernel
theorem dX10_findFar_124 : decode cX10_findFar 124 = .ok (.iinc 5 1, 3) := by decide +kernel
theorem dX10_findFar_127 : decode cX10_findFar 127 = .ok (.goto (-74), 3) := by decide +kernel
theorem dX10_findFar_130 : decode cX10_findFar 130 = .ok (.iinc 4 1, 3) := by decide +kernel
theorem dX10_findFar_133 : decode cX10_findFar 133 = .ok (.goto (-89), 3) := by decide +kernel
theorem dX10_findFar_136 : decode cX10_findFar 136 = .ok (.return_, 1) := by decide +kernel
set_option maxRecDepth 20000 in
theorem ggX10_soonest_X10_isRule : GoodIn wsX10_soonest wsX10_isRule := goodIn_r _ [5, 6, 7, 4, 8] (by decide +kernel) (by decide +kernel)
set_option maxRecDepth 20000 in
theorem gX10_soonest_X10_isRule : GoodIn wsX10_soonest (va_wsS RX10 100 yX10_isRule wsX10_isRule) := goodIn_app (goodIn_of _ (by decide +kernel)) ggX10_soonest_X10_isRule
set_option maxRecDepth 20000 in
theorem ggX10_soonest_X10_refuse : GoodIn wsX10_soonest wsX10_refuse := goodIn_r _ [12, 13, 51, 52, 53, 54, 55, 56, 57, 58, 59, 60, 61, 62, 63, 64, 65, 66, 67, 68, 69, 70, 71, 72, 73, 74, 75, 76, 77, 78, 79, 80, 81, 82, 83] (by decide +kernel) (by decide +kernel)
set_option maxRecDepth 20000 in
theorem gX10_soonest_X10_refuse : GoodIn wsX10_soonest (wsV RX10 84 RX10 yX10_refuse wsX10_refuse) := goodIn_app (goodIn_of _ (by decide +kernel)) ggX10_soonest_X10_refuse
set_option maxRecDepth 20000 in
theorem ggX10_soonest_X10_stateOf : GoodIn wsX10_soonest wsX10_stateOf := goodIn_r _ [17, 18, 51, 52, 53, 54, 55, 56, 57, 58, 59, 60, 61, 62, 63, 64, 65, 66, 67, 68, 69, 70, 71, 72, 73, 74, 75, 76, 77, 78, 79, 80, 81, 82, 83] (by decide +kernel) (by decide +kernel)
set_option maxRecDepth 20000 in
theorem gX10_soonest_X10_stateOf : GoodIn wsX10_soonest (wsV RX10 204 RX10 yX10_stateOf wsX10_stateOf) := goodIn_app (goodIn_of _ (by decide +kernel)) ggX10_soonest_X10_stateOf
set_option maxRecDepth 20000 in
theorem ggX10_soonest_X10_findFar : GoodIn wsX10_soonest wsX10_findFar := goodIn_r _ [22, 1, 23, 24, 25, 26, 4, 27, 18, 28, 29, 30, 31, 32, 33, 34, 35, 36, 37, 38, 39, 40, 41, 42, 43, 44, 45, 46, 47, 48, 49, 50, 6, 7, 8, 51, 52, 53, 54, 55, 56, 57, 58, 59, 60, 61, 62, 63, 64, 65, 66, 67, 68, 69, 70, 71, 72, 73, 74, 75, 76, 77, 78, 79, 80, 81, 82, 83] (by decide +kernel) (by decide +kernel)
set_option maxRecDepth 20000 in
theorem gX10_soonest_X10_findFar : GoodIn wsX10_soonest (wsV RX10 207 RX10 yX10_findFar wsX10_findFar) := goodIn_app (goodIn_of _ (by decide +kernel)) ggX10_soonest_X10_findFar
theorem dX10_soonest_0 : decode cX10_soonest 0 = .ok (.iload_n 1, 1) := by decide +kernel
theorem dX10_soonest_1 : decode cX10_soonest 1 = .ok (.invokestatic 100, 3) := by decide +kernel
theorem dX10_soonest_4 : decode cX10_soonest 4 = .ok (.ifCond .ne 10, 3) := by decide +kernel
theorem dX10_soonest_7 : decode cX10_soonest 7 = .ok (.aload_n 0, 1) := by decide +kernel
theorem dX10_soonest_8 : decode cX10_soonest 8 = .ok (.bipush (-2), 2) := by decide +kernel
theorem dX10_soonest_10 : decode cX10_soonest 10 = .ok (.invokevirtual 84, 3) := by decide +kernel
theorem dX10_soonest_13 : decode cX10_soonest 13 = .ok (.ireturn, 1) := by decide +kernel
theorem dX10_soonest_14 : decode cX10_soonest 14 = .ok (.aload_n 0, 1) := by decide +kernel
theorem dX10_soonest_15 : decode cX10_soonest 15 = .ok (.iload_n 1, 1) := by decide +kernel
theorem dX10_soonest_16 : decode cX10_soonest 16 = .ok (.aload_n 0, 1) := by decide +kernel
theorem dX10_soonest_17 : decode cX10_soonest 17 = .ok (.bipush 23, 2) := by decide +kernel
theorem dX10_soonest_19 : decode cX10_soonest 19 = .ok (.invokevirtual 204, 3) := by decide +kernel
theorem dX10_soonest_22 : decode cX10_soonest 22 = .ok (.invokevirtual 207, 3) := by decide +kernel
theorem dX10_soonest_25 : decode cX10_soonest 25 = .ok (.aload_n 0, 1) := by decide +kernel
theorem dX10_soonest_26 : decode cX10_soonest 26 = .ok (.getfield 69, 3) := by decide +kernel
theorem dX10_soonest_29 : decode cX10_soonest 29 = .ok (.aload_n 0, 1) := by decide +kernel
theorem dX10_soonest_30 : decode cX10_soonest 30 = .ok (.bipush 28, 2) := by decide +kernel
theorem dX10_soonest_32 : decode cX10_soonest 32 = .ok (.invokevirtual 204, 3) := by decide +kernel
theorem dX10_soonest_35 : decode cX10_soonest 35 = .ok (.iaload, 1) := by decide +kernel
theorem dX10_soonest_36 : decode cX10_soonest 36 = .ok (.istore_n 2, 1) := by decide +kernel
theorem dX10_soonest_37 : decode cX10_soonest 37 = .ok (.iload_n 2, 1) := by decide +kernel
theorem dX10_soonest_38 : decode cX10_soonest 38 = .ok (.sipush 9999, 3) := by decide +kernel
theorem dX10_soonest_41 : decode cX10_soonest 41 = .ok (.if_icmp .ne 7, 3) := by decide +kernel
theorem dX10_soonest_44 : decode cX10_soonest 44 = .ok (.iconst (-1), 1) := by decide +kernel
theorem dX10_soonest_45 : decode cX10_soonest 45 = .ok (.goto 4, 3) := by decide +kernel
theorem dX10_soonest_48 : decode cX10_soonest 48 = .ok (.iload_n 2, 1) := by decide +kernel
theorem dX10_soonest_49 : decode cX10_soonest 49 = .ok (.ireturn, 1) := by decide +kernel
set_option maxRecDepth 20000 in
theorem ggX10_at_X10_isRule : GoodIn wsX10_at wsX10_isRule := goodIn_r _ [5, 6, 7, 4, 8] (by decide +kernel) (by decide +kernel)
set_option maxRecDepth 20000 in
theorem gX10_at_X10_isRule : GoodIn wsX10_at (va_wsS RX10 100 yX10_isRule wsX10_isRule) := goodIn_app (goodIn_of _ (by decide +kernel)) ggX10_at_X10_isRule
set_option maxRecDepth 20000 in
theorem ggX10_at_X10_isPerson : GoodIn wsX10_at wsX10_isPerson := goodIn_r _ [12, 13, 6, 7, 4, 8, 59, 60, 61, 62, 63, 64, 65, 66, 67, 68, 69, 70, 71, 72, 73, 74, 75, 76, 77, 78, 79, 80, 81, 82, 83, 84, 85, 86, 87, 88, 89, 90, 91] (by decide +kernel) (by decide +kernel)
set_option maxRecDepth 20000 in
theorem gX10_at_X10_isPerson : GoodIn wsX10_at (wsV RX10 170 RX10 yX10_isPerson wsX10_isPerson) := goodIn_app (goodIn_of _ (by decide +kernel)) ggX10_at_X10_isPerson
set_option maxRecDepth 20000 in
theorem ggX10_at_X10_refuseAs : GoodIn wsX10_at wsX10_refuseAs := goodIn_r _ [17, 18, 19, 20, 4, 21, 22, 59, 60, 61, 62, 63, 64, 65, 66, 67, 68, 69, 70, 71, 72, 73, 74, 75, 76, 77, 78, 79, 80, 81, 82, 83, 84, 85, 86, 87, 88, 89, 90, 91] (by decide +kernel) (by decide +kernel)
set_option maxRecDepth 20000 in
theorem gX10_at_X10_refuseAs : GoodIn wsX10_at (wsV RX10 164 RX10 yX10_refuseAs wsX10_refuseAs) := goodIn_app (goodIn_of _ (by decide +kernel)) ggX10_at_X10_refuseAs
set_option maxRecDepth 20000 in
theorem ggX10_at_X10_stateOf : GoodIn wsX10_at wsX10_stateOf := goodIn_r _ [26, 13, 59, 60, 61, 62, 63, 64, 65, 66, 67, 68, 69, 70, 71, 72, 73, 74, 75, 76, 77, 78, 79, 80, 81, 82, 83, 84, 85, 86, 87, 88, 89, 90, 91] (by decide +kernel) (by decide +kernel)
set_option maxRecDepth 20000 in
theorem gX10_at_X10_stateOf : GoodIn wsX10_at (wsV RX10 204 RX10 yX10_stateOf wsX10_stateOf) := goodIn_app (goodIn_of _ (by decide +kernel)) ggX10_at_X10_stateOf
set_option maxRecDepth 20000 in
theorem ggX10_at_X10_findFar : GoodIn wsX10_at wsX10_findFar := goodIn_r _ [30, 1, 31, 32, 33, 34, 4, 35, 13, 36, 37, 38, 39, 40, 41, 42, 43, 44, 45, 46, 47, 48, 49, 50, 51, 52, 53, 54, 55, 56, 57, 58, 6, 7, 8, 59, 60, 61, 62, 63, 64, 65, 66, 67, 68, 69, 70, 71, 72, 73, 74, 75, 76, 77, 78, 79, 80, 81, 82, 83, 84, 85, 86, 87, 88, 89, 90, 91] (by decide +kernel) (by decide +kernel)
set_option maxRecDepth 20000 in
theorem gX10_at_X10_findFar : GoodIn wsX10_at (wsV RX10 207 RX10 yX10_findFar wsX10_findFar) := goodIn_app (goodIn_of _ (by decide +kernel)) ggX10_at_X10_findFar
set_option maxRecDepth 20000 in
theorem ggX10_at_X10_isStep : GoodIn wsX10_at wsX10_isStep := goodIn_r _ [39, 40, 13, 41, 42, 43, 4, 44, 45, 46, 47, 48, 49, 50, 51, 52, 53, 54, 55, 56, 57, 58, 6, 7, 8, 59, 60, 61, 62, 63, 64, 65, 66, 67, 68, 69, 70, 71, 72, 73, 74, 75, 76, 77, 78, 79, 80, 81, 82, 83, 84, 85, 86, 87, 88, 89, 90, 91] (by decide +kernel) (by decide +kernel)
set_option maxRecDepth 20000 in
theorem gX10_at_X10_isStep : GoodIn wsX10_at (wsV RX10 201 RX10 yX10_isStep wsX10_isStep) := goodIn_app (goodIn_of _ (by decide +kernel)) ggX10_at_X10_isStep
set_option maxRecDepth 20000 in
theorem ggX10_at_X10_whereIn : GoodIn wsX10_at wsX10_whereIn := goodIn_r _ [44, 13, 59, 60, 61, 62, 63, 64, 65, 66, 67, 68, 69, 70, 71, 72, 73, 74, 75, 76, 77, 78, 79, 80, 81, 82, 83, 84, 85, 86, 87, 88, 89, 90, 91] (by decide +kernel) (by decide +kernel)
set_option maxRecDepth 20000 in
theorem gX10_at_X10_whereIn : GoodIn wsX10_at (wsV RX10 195 RX10 yX10_whereIn wsX10_whereIn) := goodIn_app (goodIn_of _ (by decide +kernel)) ggX10_at_X10_whereIn
theorem dX10_at_0 : decode cX10_at 0 = .ok (.iload_n 1, 1) := by decide +kernel
theorem dX10_at_1 : decode cX10_at 1 = .ok (.invokestatic 100, 3) := by decide +kernel
theorem dX10_at_4 : decode cX10_at 4 = .ok (.ifCond .eq 15, 3) := by decide +kernel
theorem dX10_at_7 : decode cX10_at 7 = .ok (.iload_n 2, 1) := by decide +kernel
theorem dX10_at_8 : decode cX10_at 8 = .ok (.ifCond .lt 11, 3) := by decide +kernel
theorem dX10_at_11 : decode cX10_at 11 = .ok (.aload_n 0, 1) := by decide +kernel
theorem dX10_at_12 : decode cX10_at 12 = .ok (.iload_n 3, 1) := by decide +kernel
theorem dX10_at_13 : decode cX10_at 13 = .ok (.invokevirtual 170, 3) := by decide +kernel
theorem dX10_at_16 : decode cX10_at 16 = .ok (.ifCond .ne 12, 3) := by decide +kernel
theorem dX10_at_19 : decode cX10_at 19 = .ok (.aload_n 0, 1) := by decide +kernel
theorem dX10_at_20 : decode cX10_at 20 = .ok (.bipush (-2), 2) := by decide +kernel
theorem dX10_at_22 : decode cX10_at 22 = .ok (.bipush (-10), 2) := by decide +kernel
theorem dX10_at_24 : decode cX10_at 24 = .ok (.invokevirtual 164, 3) := by decide +kernel
theorem dX10_at_27 : decode cX10_at 27 = .ok (.ireturn, 1) := by decide +kernel
theorem dX10_at_28 : decode cX10_at 28 = .ok (.aload_n 0, 1) := by decide +kernel
theorem dX10_at_29 : decode cX10_at 29 = .ok (.iload_n 1, 1) := by decide +kernel
theorem dX10_at_30 : decode cX10_at 30 = .ok (.aload_n 0, 1) := by decide +kernel
theorem dX10_at_31 : decode cX10_at 31 = .ok (.bipush 28, 2) := by decide +kernel
theorem dX10_at_33 : decode cX10_at 33 = .ok (.invokevirtual 204, 3) := by decide +kernel
theorem dX10_at_36 : decode cX10_at 36 = .ok (.invokevirtual 207, 3) := by decide +kernel
theorem dX10_at_39 : decode cX10_at 39 = .ok (.aload_n 0, 1) := by decide +kernel
theorem dX10_at_40 : decode cX10_at 40 = .ok (.bipush 23, 2) := by decide +kernel
theorem dX10_at_42 : decode cX10_at 42 = .ok (.invokevirtual 204, 3) := by decide +kernel
theorem dX10_at_45 : decode cX10_at 45 = .ok (.istore 4, 2) := by decide +kernel
theorem dX10_at_47 : decode cX10_at 47 = .ok (.aload_n 0, 1) := by decide +kernel
theorem dX10_at_48 : decode cX10_at 48 = .ok (.getfield 69, 3) := by decide +kernel
theorem dX10_at_51 : decode cX10_at 51 = .ok (.iload 4, 2) := by decide +kernel
theorem dX10_at_53 : decode cX10_at 53 = .ok (.iaload, 1) := by decide +kernel
theorem dX10_at_54 : decode cX10_at 54 = .ok (.sipush 9999, 3) := by decide +kernel
theorem dX10_at_57 : decode cX10_at 57 = .ok (.if_icmp .ne 12, 3) := by decide +kernel
theorem dX10_at_60 : decode cX10_at 60 = .ok (.aload_n 0, 1) := by decide +kernel
theorem dX10_at_61 : decode cX10_at 61 = .ok (.bipush (-3), 2) := by decide +kernel
theorem dX10_at_63 : decode cX10_at 63 = .ok (.bipush (-20), 2) := by decide +kernel
theorem dX10_at_65 : decode cX10_at 65 = .ok (.invokevirtual 164, 3) := by decide +kernel
theorem dX10_at_68 : decode cX10_at 68 = .ok (.ireturn, 1) := by decide +kernel
theorem dX10_at_69 : decode cX10_at 69 = .ok (.iload_n 2, 1) := by decide +kernel
theorem dX10_at_70 : decode cX10_at 70 = .ok (.aload_n 0, 1) := by decide +kernel
theorem dX10_at_71 : decode cX10_at 71 = .ok (.getfield 69, 3) := by decide +kernel
theorem dX10_at_74 : decode cX10_at 74 = .ok (.iload 4, 2) := by decide +kernel
theorem dX10_at_76 : decode cX10_at 76 = .ok (.iaload, 1) := by decide +kernel
theorem dX10_at_77 : decode cX10_at 77 = .ok (.if_icmp .le 6, 3) := by decide +kernel
theorem dX10_at_80 : decode cX10_at 80 = .ok (.bipush (-5), 2) := by decide +kernel
theorem dX10_at_82 : decode cX10_at 82 = .ok (.ireturn, 1) := by decide +kernel
theorem dX10_at_83 : decode cX10_at 83 = .ok (.iconst 0, 1) := by decide +kernel
theorem dX10_at_84 : decode cX10_at 84 = .ok (.istore 5, 2) := by decide +kernel
theorem dX10_at_86 : decode cX10_at 86 = .ok (.iload 5, 2) := by decide +kernel
theorem dX10_at_88 : decode cX10_at 88 = .ok (.iload_n 2, 1) := by decide +kernel
theorem dX10_at_89 : decode cX10_at 89 = .ok (.if_icmp .ge 53, 3) := by decide +kernel
theorem dX10_at_92 : decode cX10_at 92 = .ok (.iconst 0, 1) := by decide +kernel
theorem dX10_at_93 : decode cX10_at 93 = .ok (.istore 6, 2) := by decide +kernel
theorem dX10_at_95 : decode cX10_at 95 = .ok (.aload_n 0, 1) := by decide +kernel
theorem dX10_at_96 : decode cX10_at 96 = .ok (.getfield 69, 3) := by decide +kernel
theorem dX10_at_99 : decode cX10_at 99 = .ok (.iload 6, 2) := by decide +kernel
theorem dX10_at_101 : decode cX10_at 101 = .ok (.iaload, 1) := by decide +kernel
theorem dX10_at_102 : decode cX10_at 102 = .ok (.aload_n 0, 1) := by decide +kernel
theorem dX10_at_103 : decode cX10_at 103 = .ok (.getfield 69, 3) := by decide +kernel
theorem dX10_at_106 : decode cX10_at 106 = .ok (.iload 4, 2) := by decide +kernel
theorem dX10_at_108 : decode cX10_at 108 = .ok (.iaload, 1) := by decide +kernel
theorem dX10_at_109 : decode cX10_at 109 = .ok (.iconst 1, 1) := by decide +kernel
theorem dX10_at_110 : decode cX10_at 110 = .ok (.isub, 1) := by decide +kernel
theorem dX10_at_111 : decode cX10_at 111 = .ok (.if_icmp .ne 15, 3) := by decide +kernel
theorem dX10_at_114 : decode cX10_at 114 = .ok (.aload_n 0, 1) := by decide +kernel
theorem dX10_at_115 : decode cX10_at 115 = .ok (.iload_n 1, 1) := by decide +kernel
theorem dX10_at_116 : decode cX10_at 116 = .ok (.iload 4, 2) := by decide +kernel
theorem dX10_at_118 : decode cX10_at 118 = .ok (.iload 6, 2) := by decide +kernel
theorem dX10_at_120 : decode cX10_at 120 = .ok (.invokevirtual 201, 3) := by decide +kernel
theorem dX10_at_123 : decode cX10_at 123 = .ok (.ifCond .ne 9, 3) := by decide +kernel
theorem dX10_at_126 : decode cX10_at 126 = .ok (.iinc 6 1, 3) := by decide +kernel
theorem dX10_at_129 : decode cX10_at 129 = .ok (.goto (-34), 3) := by decide +kernel
theorem dX10_at_132 : decode cX10_at 132 = .ok (.iload 6, 2) := by decide +kernel
theorem dX10_at_134 : decode cX10_at 134 = .ok (.istore 4, 2) := by decide +kernel
theorem dX10_at_136 : decode cX10_at 136 = .ok (.iinc 5 1, 3) := by decide +kernel
theorem dX10_at_139 : decode cX10_at 139 = .ok (.goto (-53), 3) := by decide +kernel
theorem dX10_at_142 : decode cX10_at 142 = .ok (.aload_n 0, 1) := by decide +kernel
theorem dX10_at_143 : decode cX10_at 143 = .ok (.iload 4, 2) := by decide +kernel
theorem dX10_at_145 : decode cX10_at 145 = .ok (.iload_n 3, 1) := by decide +kernel
theorem dX10_at_146 : decode cX10_at 146 = .ok (.invokevirtual 195, 3) := by decide +kernel
theorem dX10_at_149 : decode cX10_at 149 = .ok (.ireturn, 1) := by decide +kernel
set_option maxRecDepth 20000 in
theorem ggX10_never_X10_isRule : GoodIn wsX10_never wsX10_isRule := goodIn_r _ [6, 7, 8, 5, 9] (by decide +kernel) (by decide +kernel)
set_option maxRecDepth 20000 in
theorem gX10_never_X10_isRule : GoodIn wsX10_never (va_wsS RX10 100 yX10_isRule wsX10_isRule) := goodIn_app (goodIn_of _ (by decide +kernel)) ggX10_never_X10_isRule
set_option maxRecDepth 20000 in
theorem ggX10_never_X10_refuse : GoodIn wsX10_never wsX10_refuse := goodIn_r _ [13, 14, 51, 52, 53, 54, 55, 56, 57, 58, 59, 60, 61, 62, 63, 64, 65, 66, 67, 68, 69, 70, 71, 72, 73, 74, 75, 76, 77, 78, 79, 80, 81, 82, 83] (by decide +kernel) (by decide +kernel)
set_option maxRecDepth 20000 in
theorem gX10_never_X10_refuse : GoodIn wsX10_never (wsV RX10 84 RX10 yX10_refuse wsX10_refuse) := goodIn_app (goodIn_of _ (by decide +kernel)) ggX10_never_X10_refuse
set_option maxRecDepth 20000 in
theorem ggX10_never_X10_stateOf : GoodIn wsX10_never wsX10_stateOf := goodIn_r _ [18, 1, 51, 52, 53, 54, 55, 56, 57, 58, 59, 60, 61, 62, 63, 64, 65, 66, 67, 68, 69, 70, 71, 72, 73, 74, 75, 76, 77, 78, 79, 80, 81, 82, 83] (by decide +kernel) (by decide +kernel)
set_option maxRecDepth 20000 in
theorem gX10_never_X10_stateOf : GoodIn wsX10_never (wsV RX10 204 RX10 yX10_stateOf wsX10_stateOf) := goodIn_app (goodIn_of _ (by decide +kernel)) ggX10_never_X10_stateOf
set_option maxRecDepth 20000 in
theorem ggX10_never_X10_findFar : GoodIn wsX10_never wsX10_findFar := goodIn_r _ [22, 2, 23, 24, 25, 26, 5, 27, 1, 28, 29, 30, 31, 32, 33, 34, 35, 36, 37, 38, 39, 40, 41, 42, 43, 44, 45, 46, 47, 48, 49, 50, 7, 8, 9, 51, 52, 53, 54, 55, 56, 57, 58, 59, 60, 61, 62, 63, 64, 65, 66, 67, 68, 69, 70, 71, 72, 73, 74, 75, 76, 77, 78, 79, 80, 81, 82, 83] (by decide +kernel) (by decide +kernel)
set_option maxRecDepth 20000 in
theorem gX10_never_X10_findFar : GoodIn wsX10_never (wsV RX10 207 RX10 yX10_findFar wsX10_findFar) := goodIn_app (goodIn_of _ (by decide +kernel)) ggX10_never_X10_findFar
set_option maxRecDepth 20000 in
theorem ggX10_never_X10_states : GoodIn wsX10_never wsX10_states := goodIn_r _ [27, 1, 51, 52, 53, 54, 55, 56, 57, 58, 59, 60, 61, 62, 63, 64, 65, 66, 67, 68, 69, 70, 71, 72, 73, 74, 75, 76, 77, 78, 79, 80, 81, 82, 83] (by decide +kernel) (by decide +kernel)
set_option maxRecDepth 20000 in
theorem gX10_never_X10_states : GoodIn wsX10_never (wsV RX10 198 RX10 yX10_states wsX10_states) := goodIn_app (goodIn_of _ (by decide +kernel)) ggX10_never_X10_states
set_option maxRecDepth 20000 in
theorem ggX10_never_X10_whereIn : GoodIn wsX10_never wsX10_whereIn := goodIn_r _ [36, 1, 51, 52, 53, 54, 55, 56, 57, 58, 59, 60, 61, 62, 63, 64, 65, 66, 67, 68, 69, 70, 71, 72, 73, 74, 75, 76, 77, 78, 79, 80, 81, 82, 83] (by decide +kernel) (by decide +kernel)
set_option maxRecDepth 20000 in
theorem gX10_never_X10_whereIn : GoodIn wsX10_never (wsV RX10 195 RX10 yX10_whereIn wsX10_whereIn) := goodIn_app (goodIn_of _ (by decide +kernel)) ggX10_never_X10_whereIn
theorem dX10_never_0 : decode cX10_never 0 = .ok (.iload_n 1, 1) := by decide +kernel
theorem dX10_never_1 : decode cX10_never 1 = .ok (.invokestatic 100, 3) := by decide +kernel
theorem dX10_never_4 : decode cX10_never 4 = .ok (.ifCond .ne 10, 3) := by decide +kernel
theorem dX10_never_7 : decode cX10_never 7 = .ok (.aload_n 0, 1) := by decide +kernel
theorem dX10_never_8 : decode cX10_never 8 = .ok (.bipush (-2), 2) := by decide +kernel
theorem dX10_never_10 : decode cX10_never 10 = .ok (.invokevirtual 84, 3) := by decide +kernel
theorem dX10_never_13 : decode cX10_never 13 = .ok (.ireturn, 1) := by decide +kernel
theorem dX10_never_14 : decode cX10_never 14 = .ok (.aload_n 0, 1) := by decide +kernel
theorem dX10_never_15 : decode cX10_never 15 = .ok (.iload_n 1, 1) := by decide +kernel
theorem dX10_never_16 : decode cX10_never 16 = .ok (.aload_n 0, 1) := by decide +kernel
theorem dX10_never_17 : decode cX10_never 17 = .ok (.bipush 23, 2) := by decide +kernel
theorem dX10_never_19 : decode cX10_never 19 = .ok (.invokevirtual 204, 3) := by decide +kernel
theorem dX10_never_22 : decode cX10_never 22 = .ok (.invokevirtual 207, 3) := by decide +kernel
theorem dX10_never_25 : decode cX10_never 25 = .ok (.iconst 1, 1) := by decide +kernel
theorem dX10_never_26 : decode cX10_never 26 = .ok (.aload_n 0, 1) := by decide +kernel
theorem dX10_never_27 : decode cX10_never 27 = .ok (.getfield 7, 3) := by decide +kernel
theorem dX10_never_30 : decode cX10_never 30 = .ok (.iconst 1, 1) := by decide +kernel
theorem dX10_never_31 : decode cX10_never 31 = .ok (.iaload, 1) := by decide +kernel
theorem dX10_never_32 : decode cX10_never 32 = .ok (.ishl, 1) := by decide +kernel
theorem dX10_never_33 : decode cX10_never 33 = .ok (.iconst 1, 1) := by decide +kernel
theorem dX10_never_34 : decode cX10_never 34 = .ok (.isub, 1) := by decide +kernel
theorem dX10_never_35 : decode cX10_never 35 = .ok (.istore_n 2, 1) := by decide +kernel
theorem dX10_never_36 : decode cX10_never 36 = .ok (.iconst 0, 1) := by decide +kernel
theorem dX10_never_37 : decode cX10_never 37 = .ok (.istore_n 3, 1) := by decide +kernel
theorem dX10_never_38 : decode cX10_never 38 = .ok (.iload_n 3, 1) := by decide +kernel
theorem dX10_never_39 : decode cX10_never 39 = .ok (.aload_n 0, 1) := by decide +kernel
theorem dX10_never_40 : decode cX10_never 40 = .ok (.invokevirtual 198, 3) := by decide +kernel
theorem dX10_never_43 : decode cX10_never 43 = .ok (.if_icmp .ge 74, 3) := by decide +kernel
theorem dX10_never_46 : decode cX10_never 46 = .ok (.iconst 0, 1) := by decide +kernel
theorem dX10_never_47 : decode cX10_never 47 = .ok (.istore 4, 2) := by decide +kernel
theorem dX10_never_49 : decode cX10_never 49 = .ok (.iload 4, 2) := by decide +kernel
theorem dX10_never_51 : decode cX10_never 51 = .ok (.aload_n 0, 1) := by decide +kernel
theorem dX10_never_52 : decode cX10_never 52 = .ok (.getfield 7, 3) := by decide +kernel
theorem dX10_never_55 : decode cX10_never 55 = .ok (.iconst 1, 1) := by decide +kernel
theorem dX10_never_56 : decode cX10_never 56 = .ok (.iaload, 1) := by decide +kernel
theorem dX10_never_57 : decode cX10_never 57 = .ok (.if_icmp .ge 54, 3) := by decide +kernel
theorem dX10_never_60 : decode cX10_never 60 = .ok (.aload_n 0, 1) := by decide +kernel
theorem dX10_never_61 : decode cX10_never 61 = .ok (.getfield 69, 3) := by decide +kernel
theorem dX10_never_64 : decode cX10_never 64 = .ok (.iload_n 3, 1) := by decide +kernel
theorem dX10_never_65 : decode cX10_never 65 = .ok (.iaload, 1) := by decide +kernel
theorem dX10_never_66 : decode cX10_never 66 = .ok (.sipush 9999, 3) := by decide +kernel
theorem dX10_never_69 : decode cX10_never 69 = .ok (.if_icmp .ge 42, 3) := by decide +kernel
theorem dX10_never_72 : decode cX10_never 72 = .ok (.iload_n 2, 1) := by decide +kernel
theorem dX10_never_73 : decode cX10_never 73 = .ok (.aload_n 0, 1) := by decide +kernel
theorem dX10_never_74 : decode cX10_never 74 = .ok (.iload_n 3, 1) := by decide +kernel
theorem dX10_never_75 : decode cX10_never 75 = .ok (.iload 4, 2) := by decide +kernel
theorem dX10_never_77 : decode cX10_never 77 = .ok (.invokevirtual 195, 3) := by decide +kernel
theorem dX10_never_80 : decode cX10_never 80 = .ok (.aload_n 0, 1) := by decide +kernel
theorem dX10_never_81 : decode cX10_never 81 = .ok (.getfield 7, 3) := by decide +kernel
theorem dX10_never_84 : decode cX10_never 84 = .ok (.bipush 28, 2) := by decide +kernel
theorem dX10_never_86 : decode cX10_never 86 = .ok (.iload 4, 2) := by decide +kernel
theorem dX10_never_88 : decode cX10_never 88 = .ok (.iadd, 1) := by decide +kernel
theorem dX10_never_89 : decode cX10_never 89 = .ok (.iaload, 1) := by decide +kernel
theorem dX10_never_90 : decode cX10_never 90 = .ok (.if_icmp .ne 12, 3) := by decide +kernel
theorem dX10_never_93 : decode cX10_never 93 = .ok (.iconst 1, 1) := by decide +kernel
theorem dX10_never_94 : decode cX10_never 94 = .ok (.iload 4, 2) := by decide +kernel
theorem dX10_never_96 : decode cX10_never 96 = .ok (.ishl, 1) := by decide +kernel
theorem dX10_never_97 : decode cX10_never 97 = .ok (.iconst (-1), 1) := by decide +kernel
theorem dX10_never_98 : decode cX10_never 98 = .ok (.ixor, 1) := by decide +kernel
theorem dX10_never_99 : decode cX10_never 99 = .ok (.goto 4, 3) := by decide +kernel
theorem dX10_never_102 : decode cX10_never 102 = .ok (.iconst (-1), 1) := by decide +kernel
theorem dX10_never_103 : decode cX10_never 103 = .ok (.iand, 1) := by decide +kernel
theorem dX10_never_104 : decode cX10_never 104 = .ok (.istore_n 2, 1) := by decide +kernel
theorem dX10_never_105 : decode cX10_never 105 = .ok (.iinc 4 1, 3) := by decide +kernel
theorem dX10_never_108 : decode cX10_never 108 = .ok (.goto (-59), 3) := by decide +kernel
theorem dX10_never_111 : decode cX10_never 111 = .ok (.iinc 3 1, 3) := by decide +kernel
theorem dX10_never_114 : decode cX10_never 114 = .ok (.goto (-76), 3) := by decide +kernel
theorem dX10_never_117 : decode cX10_never 117 = .ok (.iload_n 2, 1) := by decide +kernel
theorem dX10_never_118 : decode cX10_never 118 = .ok (.ireturn, 1) := by decide +kernel
set_option maxRecDepth 20000 in
theorem ggX10_hired_X10_isRule : GoodIn wsX10_hired wsX10_isRule := goodIn_r _ [4, 5, 6, 3, 7] (by decide +kernel) (by decide +kernel)
set_option maxRecDepth 20000 in
theorem gX10_hired_X10_isRule : GoodIn wsX10_hired (va_wsS RX10 100 yX10_isRule wsX10_isRule) := goodIn_app (goodIn_of _ (by decide +kernel)) ggX10_hired_X10_isRule
set_option maxRecDepth 20000 in
theorem ggX10_hired_X10_refuse : GoodIn wsX10_hired wsX10_refuse := goodIn_r _ [11, 12, 24, 25, 26, 27, 28, 29, 30, 31, 32, 33, 34, 35, 36, 37, 38, 39, 40, 41, 42, 43, 44, 45, 46, 47, 48, 49, 50, 51, 52, 53, 54, 55, 56] (by decide +kernel) (by decide +kernel)
set_option maxRecDepth 20000 in
theorem gX10_hired_X10_refuse : GoodIn wsX10_hired (wsV RX10 84 RX10 yX10_refuse wsX10_refuse) := goodIn_app (goodIn_of _ (by decide +kernel)) ggX10_hired_X10_refuse
set_option maxRecDepth 20000 in
theorem ggX10_hired_X10_may : GoodIn wsX10_hired wsX10_may := goodIn_r _ [16, 17, 18, 19, 3, 20, 21, 22, 23, 5, 6, 7, 24, 25, 26, 27, 28, 29, 30, 31, 32, 33, 34, 35, 36, 37, 38, 39, 40, 41, 42, 43, 44, 45, 46, 47, 48, 49, 50, 51, 52, 53, 54, 55, 56] (by decide +kernel) (by decide +kernel)
set_option maxRecDepth 20000 in
theorem gX10_hired_X10_may : GoodIn wsX10_hired (wsV RX10 103 RX10 yX10_may wsX10_may) := goodIn_app (goodIn_of _ (by decide +kernel)) ggX10_hired_X10_may
theorem dX10_hired_0 : decode cX10_hired 0 = .ok (.iload_n 1, 1) := by decide +kernel
theorem dX10_hired_1 : decode cX10_hired 1 = .ok (.invokestatic 100, 3) := by decide +kernel
theorem dX10_hired_4 : decode cX10_hired 4 = .ok (.ifCond .ne 10, 3) := by decide +kernel
theorem dX10_hired_7 : decode cX10_hired 7 = .ok (.aload_n 0, 1) := by decide +kernel
theorem dX10_hired_8 : decode cX10_hired 8 = .ok (.bipush (-2), 2) := by decide +kernel
theorem dX10_hired_10 : decode cX10_hired 10 = .ok (.invokevirtual 84, 3) := by decide +kernel
theorem dX10_hired_13 : decode cX10_hired 13 = .ok (.ireturn, 1) := by decide +kernel
theorem dX10_hired_14 : decode cX10_hired 14 = .ok (.iconst 0, 1) := by decide +kernel
theorem dX10_hired_15 : decode cX10_hired 15 = .ok (.istore_n 3, 1) := by decide +kernel
theorem dX10_hired_16 : decode cX10_hired 16 = .ok (.iload_n 3, 1) := by decide +kernel
theorem dX10_hired_17 : decode cX10_hired 17 = .ok (.bipush 40, 2) := by decide +kernel
theorem dX10_hired_19 : decode cX10_hired 19 = .ok (.if_icmp .gt 39, 3) := by decide +kernel
theorem dX10_hired_22 : decode cX10_hired 22 = .ok (.aload_n 0, 1) := by decide +kernel
theorem dX10_hired_23 : decode cX10_hired 23 = .ok (.iload_n 1, 1) := by decide +kernel
theorem dX10_hired_24 : decode cX10_hired 24 = .ok (.iconst 1, 1) := by decide +kernel
theorem dX10_hired_25 : decode cX10_hired 25 = .ok (.iload_n 3, 1) := by decide +kernel
theorem dX10_hired_26 : decode cX10_hired 26 = .ok (.iadd, 1) := by decide +kernel
theorem dX10_hired_27 : decode cX10_hired 27 = .ok (.invokevirtual 103, 3) := by decide +kernel
theorem dX10_hired_30 : decode cX10_hired 30 = .ok (.ifCond .eq 22, 3) := by decide +kernel
theorem dX10_hired_33 : decode cX10_hired 33 = .ok (.iload_n 2, 1) := by decide +kernel
theorem dX10_hired_34 : decode cX10_hired 34 = .ok (.ifCond .eq 16, 3) := by decide +kernel
theorem dX10_hired_37 : decode cX10_hired 37 = .ok (.iload_n 3, 1) := by decide +kernel
theorem dX10_hired_38 : decode cX10_hired 38 = .ok (.ifCond .eq 12, 3) := by decide +kernel
theorem dX10_hired_41 : decode cX10_hired 41 = .ok (.aload_n 0, 1) := by decide +kernel
theorem dX10_hired_42 : decode cX10_hired 42 = .ok (.iload_n 1, 1) := by decide +kernel
theorem dX10_hired_43 : decode cX10_hired 43 = .ok (.iload_n 3, 1) := by decide +kernel
theorem dX10_hired_44 : decode cX10_hired 44 = .ok (.invokevirtual 103, 3) := by decide +kernel
theorem dX10_hired_47 : decode cX10_hired 47 = .ok (.ifCond .eq 5, 3) := by decide +kernel
theorem dX10_hired_50 : decode cX10_hired 50 = .ok (.iload_n 3, 1) := by decide +kernel
theorem dX10_hired_51 : decode cX10_hired 51 = .ok (.ireturn, 1) := by decide +kernel
theorem dX10_hired_52 : decode cX10_hired 52 = .ok (.iinc 3 1, 3) := by decide +kernel
theorem dX10_hired_55 : decode cX10_hired 55 = .ok (.goto (-39), 3) := by decide +kernel
theorem dX10_hired_58 : decode cX10_hired 58 = .ok (.iconst (-1), 1) := by decide +kernel
theorem dX10_hired_59 : decode cX10_hired 59 = .ok (.ireturn, 1) := by decide +kernel
set_option maxRecDepth 20000 in
theorem ggX10_last_X10_in : GoodIn wsX10_last wsX10_in := goodIn_r _ [5] (by decide +kernel) (by decide +kernel)
set_option maxRecDepth 20000 in
theorem gX10_last_X10_in : GoodIn wsX10_last (va_wsS RX10 95 yX10_in wsX10_in) := goodIn_app (goodIn_of _ (by decide +kernel)) ggX10_last_X10_in
set_option maxRecDepth 20000 in
theorem ggX10_last_X10_refuse : GoodIn wsX10_last wsX10_refuse := goodIn_r _ [9, 10, 11, 12, 13, 14, 15, 16, 17, 18, 19, 20, 21, 22, 23, 24, 25, 26, 27, 28, 29, 30, 31, 32, 33, 34, 35, 36, 37, 38, 39, 40, 41, 42, 43] (by decide +kernel) (by decide +kernel)
set_option maxRecDepth 20000 in
theorem gX10_last_X10_refuse : GoodIn wsX10_last (wsV RX10 84 RX10 yX10_refuse wsX10_refuse) := goodIn_app (goodIn_of _ (by decide +kernel)) ggX10_last_X10_refuse
theorem dX10_last_0 : decode cX10_last 0 = .ok (.iload_n 1, 1) := by decide +kernel
theorem dX10_last_1 : decode cX10_last 1 = .ok (.iconst 0, 1) := by decide +kernel
theorem dX10_last_2 : decode cX10_last 2 = .ok (.iconst 3, 1) := by decide +kernel
theorem dX10_last_3 : decode cX10_last 3 = .ok (.invokestatic 95, 3) := by decide +kernel
theorem dX10_last_6 : decode cX10_last 6 = .ok (.ifCond .eq 13, 3) := by decide +kernel
theorem dX10_last_9 : decode cX10_last 9 = .ok (.iload_n 2, 1) := by decide +kernel
theorem dX10_last_10 : decode cX10_last 10 = .ok (.iconst 0, 1) := by decide +kernel
theorem dX10_last_11 : decode cX10_last 11 = .ok (.bipush 99, 2) := by decide +kernel
theorem dX10_last_13 : decode cX10_last 13 = .ok (.invokestatic 95, 3) := by decide +kernel
theorem dX10_last_16 : decode cX10_last 16 = .ok (.ifCond .ne 10, 3) := by decide +kernel
theorem dX10_last_19 : decode cX10_last 19 = .ok (.aload_n 0, 1) := by decide +kernel
theorem dX10_last_20 : decode cX10_last 20 = .ok (.bipush (-2), 2) := by decide +kernel
theorem dX10_last_22 : decode cX10_last 22 = .ok (.invokevirtual 84, 3) := by decide +kernel
theorem dX10_last_25 : decode cX10_last 25 = .ok (.ireturn, 1) := by decide +kernel
theorem dX10_last_26 : decode cX10_last 26 = .ok (.aload_n 0, 1) := by decide +kernel
theorem dX10_last_27 : decode cX10_last 27 = .ok (.getfield 7, 3) := by decide +kernel
theorem dX10_last_30 : decode cX10_last 30 = .ok (.sipush 345, 3) := by decide +kernel
theorem dX10_last_33 : decode cX10_last 33 = .ok (.iload_n 1, 1) := by decide +kernel
theorem dX10_last_34 : decode cX10_last 34 = .ok (.iadd, 1) := by decide +kernel
theorem dX10_last_35 : decode cX10_last 35 = .ok (.iaload, 1) := by decide +kernel
theorem dX10_last_36 : decode cX10_last 36 = .ok (.istore_n 3, 1) := by decide +kernel
theorem dX10_last_37 : decode cX10_last 37 = .ok (.aload_n 0, 1) := by decide +kernel
theorem dX10_last_38 : decode cX10_last 38 = .ok (.getfield 7, 3) := by decide +kernel
theorem dX10_last_41 : decode cX10_last 41 = .ok (.sipush 345, 3) := by decide +kernel
theorem dX10_last_44 : decode cX10_last 44 = .ok (.iload_n 1, 1) := by decide +kernel
theorem dX10_last_45 : decode cX10_last 45 = .ok (.iadd, 1) := by decide +kernel
theorem dX10_last_46 : decode cX10_last 46 = .ok (.iload_n 2, 1) := by decide +kernel
theorem dX10_last_47 : decode cX10_last 47 = .ok (.iastore, 1) := by decide +kernel
theorem dX10_last_48 : decode cX10_last 48 = .ok (.iload_n 3, 1) := by decide +kernel
theorem dX10_last_49 : decode cX10_last 49 = .ok (.ireturn, 1) := by decide +kernel
set_option maxRecDepth 20000 in
theorem ggX10_still_X10_isRule : GoodIn wsX10_still wsX10_isRule := goodIn_r _ [5, 6, 7, 4, 8] (by decide +kernel) (by decide +kernel)
set_option maxRecDepth 20000 in
theorem gX10_still_X10_isRule : GoodIn wsX10_still (va_wsS RX10 100 yX10_isRule wsX10_isRule) := goodIn_app (goodIn_of _ (by decide +kernel)) ggX10_still_X10_isRule
set_option maxRecDepth 20000 in
theorem ggX10_still_X10_refuse : GoodIn wsX10_still wsX10_refuse := goodIn_r _ [12, 13, 28, 29, 30, 31, 32, 33, 34, 35, 36, 37, 38, 39, 40, 41, 42, 43, 44, 45, 46, 47, 48, 49, 50, 51, 52, 53, 54, 55, 56, 57, 58, 59, 60] (by decide +kernel) (by decide +kernel)
set_option maxRecDepth 20000 in
theorem gX10_still_X10_refuse : GoodIn wsX10_still (wsV RX10 84 RX10 yX10_refuse wsX10_refuse) := goodIn_app (goodIn_of _ (by decide +kernel)) ggX10_still_X10_refuse
set_option maxRecDepth 20000 in
theorem ggX10_still_X10_hasWay : GoodIn wsX10_still wsX10_hasWay := goodIn_r _ [17, 1, 28, 29, 30, 31, 32, 33, 34, 35, 36, 37, 38, 39, 40, 41, 42, 43, 44, 45, 46, 47, 48, 49, 50, 51, 52, 53, 54, 55, 56, 57, 58, 59, 60] (by decide +kernel) (by decide +kernel)
set_option maxRecDepth 20000 in
theorem gX10_still_X10_hasWay : GoodIn wsX10_still (wsV RX10 107 RX10 yX10_hasWay wsX10_hasWay) := goodIn_app (goodIn_of _ (by decide +kernel)) ggX10_still_X10_hasWay
set_option maxRecDepth 20000 in
theorem ggX10_still_X10_may : GoodIn wsX10_still wsX10_may := goodIn_r _ [21, 1, 22, 23, 4, 24, 25, 26, 27, 6, 7, 8, 28, 29, 30, 31, 32, 33, 34, 35, 36, 37, 38, 39, 40, 41, 42, 43, 44, 45, 46, 47, 48, 49, 50, 51, 52, 53, 54, 55, 56, 57, 58, 59, 60] (by decide +kernel) (by decide +kernel)
set_option maxRecDepth 20000 in
theorem gX10_still_X10_may : GoodIn wsX10_still (wsV RX10 103 RX10 yX10_may wsX10_may) := goodIn_app (goodIn_of _ (by decide +kernel)) ggX10_still_X10_may
theorem dX10_still_0 : decode cX10_still 0 = .ok (.iload_n 1, 1) := by decide +kernel
theorem dX10_still_1 : decode cX10_still 1 = .ok (.invokestatic 100, 3) := by decide +kernel
theorem dX10_still_4 : decode cX10_still 4 = .ok (.ifCond .ne 10, 3) := by decide +kernel
theorem dX10_still_7 : decode cX10_still 7 = .ok (.aload_n 0, 1) := by decide +kernel
theorem dX10_still_8 : decode cX10_still 8 = .ok (.bipush (-2), 2) := by decide +kernel
theorem dX10_still_10 : decode cX10_still 10 = .ok (.invokevirtual 84, 3) := by decide +kernel
theorem dX10_still_13 : decode cX10_still 13 = .ok (.ireturn, 1) := by decide +kernel
theorem dX10_still_14 : decode cX10_still 14 = .ok (.iconst 0, 1) := by decide +kernel
theorem dX10_still_15 : decode cX10_still 15 = .ok (.istore_n 2, 1) := by decide +kernel
theorem dX10_still_16 : decode cX10_still 16 = .ok (.iconst 0, 1) := by decide +kernel
theorem dX10_still_17 : decode cX10_still 17 = .ok (.istore_n 3, 1) := by decide +kernel
theorem dX10_still_18 : decode cX10_still 18 = .ok (.iload_n 3, 1) := by decide +kernel
theorem dX10_still_19 : decode cX10_still 19 = .ok (.iconst 4, 1) := by decide +kernel
theorem dX10_still_20 : decode cX10_still 20 = .ok (.if_icmp .ge 157, 3) := by decide +kernel
theorem dX10_still_23 : decode cX10_still 23 = .ok (.iconst 0, 1) := by decide +kernel
theorem dX10_still_24 : decode cX10_still 24 = .ok (.istore 4, 2) := by decide +kernel
theorem dX10_still_26 : decode cX10_still 26 = .ok (.iconst 0, 1) := by decide +kernel
theorem dX10_still_27 : decode cX10_still 27 = .ok (.istore 5, 2) := by decide +kernel
theorem dX10_still_29 : decode cX10_still 29 = .ok (.iload 5, 2) := by decide +kernel
theorem dX10_still_31 : decode cX10_still 31 = .ok (.aload_n 0, 1) := by decide +kernel
theorem dX10_still_32 : decode cX10_still 32 = .ok (.getfield 7, 3) := by decide +kernel
theorem dX10_still_35 : decode cX10_still 35 = .ok (.iconst 1, 1) := by decide +kernel
theorem dX10_still_36 : decode cX10_still 36 = .ok (.iaload, 1) := by decide +kernel
theorem dX10_still_37 : decode cX10_still 37 = .ok (.if_icmp .ge 33, 3) := by decide +kernel
theorem dX10_still_40 : decode cX10_still 40 = .ok (.iload 4, 2) := by decide +kernel
theorem dX10_still_42 : decode cX10_still 42 = .ok (.aload_n 0, 1) := by decide +kernel
theorem dX10_still_43 : decode cX10_still 43 = .ok (.getfield 7, 3) := by decide +kernel
theorem dX10_still_46 : decode cX10_still 46 = .ok (.bipush 23, 2) := by decide +kernel
theorem dX10_still_48 : decode cX10_still 48 = .ok (.iload 5, 2) := by decide +kernel
theorem dX10_still_50 : decode cX10_still 50 = .ok (.iadd, 1) := by decide +kernel
theorem dX10_still_51 : decode cX10_still 51 = .ok (.iaload, 1) := by decide +kernel
theorem dX10_still_52 : decode cX10_still 52 = .ok (.iload_n 3, 1) := by decide +kernel
theorem dX10_still_53 : decode cX10_still 53 = .ok (.if_icmp .ne 7, 3) := by decide +kernel
theorem dX10_still_56 : decode cX10_still 56 = .ok (.iconst 1, 1) := by decide +kernel
theorem dX10_still_57 : decode cX10_still 57 = .ok (.goto 4, 3) := by decide +kernel
theorem dX10_still_60 : decode cX10_still 60 = .ok (.iconst 0, 1) := by decide +kernel
theorem dX10_still_61 : decode cX10_still 61 = .ok (.iadd, 1) := by decide +kernel
theorem dX10_still_62 : decode cX10_still 62 = .ok (.istore 4, 2) := by decide +kernel
theorem dX10_still_64 : decode cX10_still 64 = .ok (.iinc 5 1, 3) := by decide +kernel
theorem dX10_still_67 : decode cX10_still 67 = .ok (.goto (-38), 3) := by decide +kernel
theorem dX10_still_70 : decode cX10_still 70 = .ok (.iconst 0, 1) := by decide +kernel
theorem dX10_still_71 : decode cX10_still 71 = .ok (.istore 5, 2) := by decide +kernel
theorem dX10_still_73 : decode cX10_still 73 = .ok (.iconst 0, 1) := by decide +kernel
theorem dX10_still_74 : decode cX10_still 74 = .ok (.istore 6, 2) := by decide +kernel
theorem dX10_still_76 : decode cX10_still 76 = .ok (.iload 6, 2) := by decide +kernel
theorem dX10_still_78 : decode cX10_still 78 = .ok (.iconst 4, 1) := by decide +kernel
theorem dX10_still_79 : decode cX10_still 79 = .ok (.if_icmp .ge 72, 3) := by decide +kernel
theorem dX10_still_82 : decode cX10_still 82 = .ok (.iconst 1, 1) := by decide +kernel
theorem dX10_still_83 : decode cX10_still 83 = .ok (.istore 7, 2) := by decide +kernel
theorem dX10_still_85 : decode cX10_still 85 = .ok (.iload 7, 2) := by decide +kernel
theorem dX10_still_87 : decode cX10_still 87 = .ok (.iload 4, 2) := by decide +kernel
theorem dX10_still_89 : decode cX10_still 89 = .ok (.if_icmp .gt 56, 3) := by decide +kernel
theorem dX10_still_92 : decode cX10_still 92 = .ok (.iload 5, 2) := by decide +kernel
theorem dX10_still_94 : decode cX10_still 94 = .ok (.ifCond .ne 38, 3) := by decide +kernel
theorem dX10_still_97 : decode cX10_still 97 = .ok (.aload_n 0, 1) := by decide +kernel
theorem dX10_still_98 : decode cX10_still 98 = .ok (.iload_n 3, 1) := by decide +kernel
theorem dX10_still_99 : decode cX10_still 99 = .ok (.iload 6, 2) := by decide +kernel
theorem dX10_still_101 : decode cX10_still 101 = .ok (.invokevirtual 107, 3) := by decide +kernel
theorem dX10_still_104 : decode cX10_still 104 = .ok (.ifCond .eq 32, 3) := by decide +kernel
theorem dX10_still_107 : decode cX10_still 107 = .ok (.aload_n 0, 1) := by decide +kernel
theorem dX10_still_108 : decode cX10_still 108 = .ok (.iload_n 1, 1) := by decide +kernel
theorem dX10_still_109 : decode cX10_still 109 = .ok (.iload 7, 2) := by decide +kernel
theorem dX10_still_111 : decode cX10_still 111 = .ok (.invokevirtual 103, 3) := by decide +kernel
theorem dX10_still_114 : decode cX10_still 114 = .ok (.ifCond .eq 22, 3) := by decide +kernel
theorem dX10_still_117 : decode cX10_still 117 = .ok (.iload 7, 2) := by decide +kernel
theorem dX10_still_119 : decode cX10_still 119 = .ok (.aload_n 0, 1) := by decide +kernel
theorem dX10_still_120 : decode cX10_still 120 = .ok (.getfield 7, 3) := by decide +kernel
theorem dX10_still_123 : decode cX10_still 123 = .ok (.sipush 345, 3) := by decide +kernel
theorem dX10_still_126 : decode cX10_still 126 = .ok (.iload_n 3, 1) := by decide +kernel
theorem dX10_still_127 : decode cX10_still 127 = .ok (.iadd, 1) := by decide +kernel
theorem dX10_still_128 : decode cX10_still 128 = .ok (.iaload, 1) := by decide +kernel
theorem dX10_still_129 : decode cX10_still 129 = .ok (.if_icmp .eq 7, 3) := by decide +kernel
theorem dX10_still_132 : decode cX10_still 132 = .ok (.iconst 1, 1) := by decide +kernel
theorem dX10_still_133 : decode cX10_still 133 = .ok (.goto 4, 3) := by decide +kernel
theorem dX10_still_136 : decode cX10_still 136 = .ok (.iconst 0, 1) := by decide +kernel
theorem dX10_still_137 : decode cX10_still 137 = .ok (.istore 5, 2) := by decide +kernel
theorem dX10_still_139 : decode cX10_still 139 = .ok (.iinc 7 1, 3) := by decide +kernel
theorem dX10_still_142 : decode cX10_still 142 = .ok (.goto (-57), 3) := by decide +kernel
theorem dX10_still_145 : decode cX10_still 145 = .ok (.iinc 6 1, 3) := by decide +kernel
theorem dX10_still_148 : decode cX10_still 148 = .ok (.goto (-72), 3) := by decide +kernel
theorem dX10_still_151 : decode cX10_still 151 = .ok (.iload_n 2, 1) := by decide +kernel
theorem dX10_still_152 : decode cX10_still 152 = .ok (.iload 4, 2) := by decide +kernel
theorem dX10_still_154 : decode cX10_still 154 = .ok (.ifCond .le 14, 3) := by decide +kernel
theorem dX10_still_157 : decode cX10_still 157 = .ok (.iload 5, 2) := by decide +kernel
theorem dX10_still_159 : decode cX10_still 159 = .ok (.ifCond .ne 9, 3) := by decide +kernel
theorem dX10_still_162 : decode cX10_still 162 = .ok (.iconst 1, 1) := by decide +kernel
theorem dX10_still_163 : decode cX10_still 163 = .ok (.iload_n 3, 1) := by decide +kernel
theorem dX10_still_164 : decode cX10_still 164 = .ok (.ishl, 1) := by decide +kernel
theorem dX10_still_165 : decode cX10_still 165 = .ok (.goto 4, 3) := by decide +kernel
theorem dX10_still_168 : decode cX10_still 168 = .ok (.iconst 0, 1) := by decide +kernel
theorem dX10_still_169 : decode cX10_still 169 = .ok (.ior, 1) := by decide +kernel
theorem dX10_still_170 : decode cX10_still 170 = .ok (.istore_n 2, 1) := by decide +kernel
theorem dX10_still_171 : decode cX10_still 171 = .ok (.iinc 3 1, 3) := by decide +kernel
theorem dX10_still_174 : decode cX10_still 174 = .ok (.goto (-156), 3) := by decide +kernel
theorem dX10_still_177 : decode cX10_still 177 = .ok (.iload_n 2, 1) := by decide +kernel
theorem dX10_still_178 : decode cX10_still 178 = .ok (.ireturn, 1) := by decide +kernel
theorem dX10_seated_0 : decode cX10_seated 0 = .ok (.iload_n 0, 1) := by decide +kernel
theorem dX10_seated_1 : decode cX10_seated 1 = .ok (.sipush 169, 3) := by decide +kernel
theorem dX10_seated_4 : decode cX10_seated 4 = .ok (.idiv, 1) := by decide +kernel
theorem dX10_seated_5 : decode cX10_seated 5 = .ok (.iload_n 0, 1) := by decide +kernel
theorem dX10_seated_6 : decode cX10_seated 6 = .ok (.bipush 13, 2) := by decide +kernel
theorem dX10_seated_8 : decode cX10_seated 8 = .ok (.idiv, 1) := by decide +kernel
theorem dX10_seated_9 : decode cX10_seated 9 = .ok (.bipush 13, 2) := by decide +kernel
theorem dX10_seated_11 : decode cX10_seated 11 = .ok (.irem, 1) := by decide +kernel
theorem dX10_seated_12 : decode cX10_seated 12 = .ok (.iadd, 1) := by decide +kernel
theorem dX10_seated_13 : decode cX10_seated 13 = .ok (.iload_n 0, 1) := by decide +kernel
theorem dX10_seated_14 : decode cX10_seated 14 = .ok (.bipush 13, 2) := by decide +kernel
theorem dX10_seated_16 : decode cX10_seated 16 = .ok (.irem, 1) := by decide +kernel
theorem dX10_seated_17 : decode cX10_seated 17 = .ok (.iadd, 1) := by decide +kernel
theorem dX10_seated_18 : decode cX10_seated 18 = .ok (.ireturn, 1) := by decide +kernel
set_option maxRecDepth 20000 in
theorem ggX10_isSeating_X10_isTable : GoodIn wsX10_isSeating wsX10_isTable := goodIn_r _ [5, 6, 7, 8, 4, 9, 10, 11, 12, 13, 14, 15, 16, 17, 18, 19, 20, 21, 22, 23, 24, 25, 26, 27, 28, 29, 30, 31, 32, 33, 34, 35, 36, 37, 38, 39, 40, 41, 42, 43, 44, 45, 46, 47, 48, 49, 50, 51, 52] (by decide +kernel) (by decide +kernel)
set_option maxRecDepth 20000 in
theorem gX10_isSeating_X10_isTable : GoodIn wsX10_isSeating (wsV RX10 210 RX10 yX10_isTable wsX10_isTable) := goodIn_app (goodIn_of _ (by decide +kernel)) ggX10_isSeating_X10_isTable
theorem dX10_isSeating_0 : decode cX10_isSeating 0 = .ok (.aload_n 0, 1) := by decide +kernel
theorem dX10_isSeating_1 : decode cX10_isSeating 1 = .ok (.iload_n 1, 1) := by decide +kernel
theorem dX10_isSeating_2 : decode cX10_isSeating 2 = .ok (.iload_n 3, 1) := by decide +kernel
theorem dX10_isSeating_3 : decode cX10_isSeating 3 = .ok (.iload 4, 2) := by decide +kernel
theorem dX10_isSeating_5 : decode cX10_isSeating 5 = .ok (.sipush 169, 3) := by decide +kernel
theorem dX10_isSeating_8 : decode cX10_isSeating 8 = .ok (.idiv, 1) := by decide +kernel
theorem dX10_isSeating_9 : decode cX10_isSeating 9 = .ok (.invokevirtual 210, 3) := by decide +kernel
theorem dX10_isSeating_12 : decode cX10_isSeating 12 = .ok (.ifCond .eq 56, 3) := by decide +kernel
theorem dX10_isSeating_15 : decode cX10_isSeating 15 = .ok (.aload_n 0, 1) := by decide +kernel
theorem dX10_isSeating_16 : decode cX10_isSeating 16 = .ok (.iload_n 1, 1) := by decide +kernel
theorem dX10_isSeating_17 : decode cX10_isSeating 17 = .ok (.iload_n 2, 1) := by decide +kernel
theorem dX10_isSeating_18 : decode cX10_isSeating 18 = .ok (.iconst 1, 1) := by decide +kernel
theorem dX10_isSeating_19 : decode cX10_isSeating 19 = .ok (.if_icmp .le 7, 3) := by decide +kernel
theorem dX10_isSeating_22 : decode cX10_isSeating 22 = .ok (.iload_n 3, 1) := by decide +kernel
theorem dX10_isSeating_23 : decode cX10_isSeating 23 = .ok (.goto 4, 3) := by decide +kernel
theorem dX10_isSeating_26 : decode cX10_isSeating 26 = .ok (.iconst 0, 1) := by decide +kernel
theorem dX10_isSeating_27 : decode cX10_isSeating 27 = .ok (.iload 4, 2) := by decide +kernel
theorem dX10_isSeating_29 : decode cX10_isSeating 29 = .ok (.bipush 13, 2) := by decide +kernel
theorem dX10_isSeating_31 : decode cX10_isSeating 31 = .ok (.idiv, 1) := by decide +kernel
theorem dX10_isSeating_32 : decode cX10_isSeating 32 = .ok (.bipush 13, 2) := by decide +kernel
theorem dX10_isSeating_34 : decode cX10_isSeating 34 = .ok (.irem, 1) := by decide +kernel
theorem dX10_isSeating_35 : decode cX10_isSeating 35 = .ok (.invokevirtual 210, 3) := by decide +kernel
theorem dX10_isSeating_38 : decode cX10_isSeating 38 = .ok (.ifCond .eq 30, 3) := by decide +kernel
theorem dX10_isSeating_41 : decode cX10_isSeating 41 = .ok (.aload_n 0, 1) := by decide +kernel
theorem dX10_isSeating_42 : decode cX10_isSeating 42 = .ok (.iload_n 1, 1) := by decide +kernel
theorem dX10_isSeating_43 : decode cX10_isSeating 43 = .ok (.iload_n 2, 1) := by decide +kernel
theorem dX10_isSeating_44 : decode cX10_isSeating 44 = .ok (.iconst 2, 1) := by decide +kernel
theorem dX10_isSeating_45 : decode cX10_isSeating 45 = .ok (.if_icmp .le 7, 3) := by decide +kernel
theorem dX10_isSeating_48 : decode cX10_isSeating 48 = .ok (.iload_n 3, 1) := by decide +kernel
theorem dX10_isSeating_49 : decode cX10_isSeating 49 = .ok (.goto 4, 3) := by decide +kernel
theorem dX10_isSeating_52 : decode cX10_isSeating 52 = .ok (.iconst 0, 1) := by decide +kernel
theorem dX10_isSeating_53 : decode cX10_isSeating 53 = .ok (.iload 4, 2) := by decide +kernel
theorem dX10_isSeating_55 : decode cX10_isSeating 55 = .ok (.bipush 13, 2) := by decide +kernel
theorem dX10_isSeating_57 : decode cX10_isSeating 57 = .ok (.irem, 1) := by decide +kernel
theorem dX10_isSeating_58 : decode cX10_isSeating 58 = .ok (.invokevirtual 210, 3) := by decide +kernel
theorem dX10_isSeating_61 : decode cX10_isSeating 61 = .ok (.ifCond .eq 7, 3) := by decide +kernel
theorem dX10_isSeating_64 : decode cX10_isSeating 64 = .ok (.iconst 1, 1) := by decide +kernel
theorem dX10_isSeating_65 : decode cX10_isSeating 65 = .ok (.goto 4, 3) := by decide +kernel
theorem dX10_isSeating_68 : decode cX10_isSeating 68 = .ok (.iconst 0, 1) := by decide +kernel
theorem dX10_isSeating_69 : decode cX10_isSeating 69 = .ok (.ireturn, 1) := by decide +kernel
set_option maxRecDepth 20000 in
theorem ggX10_isTable_X10_may : GoodIn wsX10_isTable wsX10_may := goodIn_r _ [5, 6, 7, 8, 4, 9, 10, 11, 12, 13, 14, 15, 16, 17, 18, 19, 20, 21, 22, 23, 24, 25, 26, 27, 28, 29, 30, 31, 32, 33, 34, 35, 36, 37, 38, 39, 40, 41, 42, 43, 44, 45, 46, 47, 48] (by decide +kernel) (by decide +kernel)
set_option maxRecDepth 20000 in
theorem gX10_isTable_X10_may : GoodIn wsX10_isTable (wsV RX10 103 RX10 yX10_may wsX10_may) := goodIn_app (goodIn_of _ (by decide +kernel)) ggX10_isTable_X10_may
theorem dX10_isTable_0 : decode cX10_isTable 0 = .ok (.iload_n 3, 1) := by decide +kernel
theorem dX10_isTable_1 : decode cX10_isTable 1 = .ok (.ifCond .eq 17, 3) := by decide +kernel
theorem dX10_isTable_4 : decode cX10_isTable 4 = .ok (.iload_n 3, 1) := by decide +kernel
theorem dX10_isTable_5 : decode cX10_isTable 5 = .ok (.iload_n 2, 1) := by decide +kernel
theorem dX10_isTable_6 : decode cX10_isTable 6 = .ok (.if_icmp .gt 16, 3) := by decide +kernel
theorem dX10_isTable_9 : decode cX10_isTable 9 = .ok (.aload_n 0, 1) := by decide +kernel
theorem dX10_isTable_10 : decode cX10_isTable 10 = .ok (.iload_n 1, 1) := by decide +kernel
theorem dX10_isTable_11 : decode cX10_isTable 11 = .ok (.iload_n 3, 1) := by decide +kernel
theorem dX10_isTable_12 : decode cX10_isTable 12 = .ok (.invokevirtual 103, 3) := by decide +kernel
theorem dX10_isTable_15 : decode cX10_isTable 15 = .ok (.ifCond .eq 7, 3) := by decide +kernel
theorem dX10_isTable_18 : decode cX10_isTable 18 = .ok (.iconst 1, 1) := by decide +kernel
theorem dX10_isTable_19 : decode cX10_isTable 19 = .ok (.goto 4, 3) := by decide +kernel
theorem dX10_isTable_22 : decode cX10_isTable 22 = .ok (.iconst 0, 1) := by decide +kernel
theorem dX10_isTable_23 : decode cX10_isTable 23 = .ok (.ireturn, 1) := by decide +kernel
theorem dX10_sink_0 : decode cX10_sink 0 = .ok (.iload_n 1, 1) := by decide +kernel
theorem dX10_sink_1 : decode cX10_sink 1 = .ok (.istore_n 2, 1) := by decide +kernel
theorem dX10_sink_2 : decode cX10_sink 2 = .ok (.iload_n 2, 1) := by decide +kernel
theorem dX10_sink_3 : decode cX10_sink 3 = .ok (.sipush 2197, 3) := by decide +kernel
theorem dX10_sink_6 : decode cX10_sink 6 = .ok (.if_icmp .ge 68, 3) := by decide +kernel
theorem dX10_sink_9 : decode cX10_sink 9 = .ok (.iload_n 2, 1) := by decide +kernel
theorem dX10_sink_10 : decode cX10_sink 10 = .ok (.iload_n 1, 1) := by decide +kernel
theorem dX10_sink_11 : decode cX10_sink 11 = .ok (.idiv, 1) := by decide +kernel
theorem dX10_sink_12 : decode cX10_sink 12 = .ok (.bipush 13, 2) := by decide +kernel
theorem dX10_sink_14 : decode cX10_sink 14 = .ok (.irem, 1) := by decide +kernel
theorem dX10_sink_15 : decode cX10_sink 15 = .ok (.ifCond .le 7, 3) := by decide +kernel
theorem dX10_sink_18 : decode cX10_sink 18 = .ok (.iconst 1, 1) := by decide +kernel
theorem dX10_sink_19 : decode cX10_sink 19 = .ok (.goto 4, 3) := by decide +kernel
theorem dX10_sink_22 : decode cX10_sink 22 = .ok (.iconst 0, 1) := by decide +kernel
theorem dX10_sink_23 : decode cX10_sink 23 = .ok (.istore_n 3, 1) := by decide +kernel
theorem dX10_sink_24 : decode cX10_sink 24 = .ok (.aload_n 0, 1) := by decide +kernel
theorem dX10_sink_25 : decode cX10_sink 25 = .ok (.getfield 78, 3) := by decide +kernel
theorem dX10_sink_28 : decode cX10_sink 28 = .ok (.iload_n 2, 1) := by decide +kernel
theorem dX10_sink_29 : decode cX10_sink 29 = .ok (.iload_n 3, 1) := by decide +kernel
theorem dX10_sink_30 : decode cX10_sink 30 = .ok (.ifCond .eq 31, 3) := by decide +kernel
theorem dX10_sink_33 : decode cX10_sink 33 = .ok (.aload_n 0, 1) := by decide +kernel
theorem dX10_sink_34 : decode cX10_sink 34 = .ok (.getfield 78, 3) := by decide +kernel
theorem dX10_sink_37 : decode cX10_sink 37 = .ok (.iload_n 2, 1) := by decide +kernel
theorem dX10_sink_38 : decode cX10_sink 38 = .ok (.iload_n 1, 1) := by decide +kernel
theorem dX10_sink_39 : decode cX10_sink 39 = .ok (.isub, 1) := by decide +kernel
theorem dX10_sink_40 : decode cX10_sink 40 = .ok (.iaload, 1) := by decide +kernel
theorem dX10_sink_41 : decode cX10_sink 41 = .ok (.aload_n 0, 1) := by decide +kernel
theorem dX10_sink_42 : decode cX10_sink 42 = .ok (.getfield 78, 3) := by decide +kernel
theorem dX10_sink_45 : decode cX10_sink 45 = .ok (.iload_n 2, 1) := by decide +kernel
theorem dX10_sink_46 : decode cX10_sink 46 = .ok (.iaload, 1) := by decide +kernel
theorem dX10_sink_47 : decode cX10_sink 47 = .ok (.if_icmp .ge 14, 3) := by decide +kernel
theorem dX10_sink_50 : decode cX10_sink 50 = .ok (.aload_n 0, 1) := by decide +kernel
theorem dX10_sink_51 : decode cX10_sink 51 = .ok (.getfield 78, 3) := by decide +kernel
theorem dX10_sink_54 : decode cX10_sink 54 = .ok (.iload_n 2, 1) := by decide +kernel
theorem dX10_sink_55 : decode cX10_sink 55 = .ok (.iload_n 1, 1) := by decide +kernel
theorem dX10_sink_56 : decode cX10_sink 56 = .ok (.isub, 1) := by decide +kernel
theorem dX10_sink_57 : decode cX10_sink 57 = .ok (.iaload, 1) := by decide +kernel
theorem dX10_sink_58 : decode cX10_sink 58 = .ok (.goto 9, 3) := by decide +kernel
theorem dX10_sink_61 : decode cX10_sink 61 = .ok (.aload_n 0, 1) := by decide +kernel
theorem dX10_sink_62 : decode cX10_sink 62 = .ok (.getfield 78, 3) := by decide +kernel
theorem dX10_sink_65 : decode cX10_sink 65 = .ok (.iload_n 2, 1) := by decide +kernel
theorem dX10_sink_66 : decode cX10_sink 66 = .ok (.iaload, 1) := by decide +kernel
theorem dX10_sink_67 : decode cX10_sink 67 = .ok (.iastore, 1) := by decide +kernel
theorem dX10_sink_68 : decode cX10_sink 68 = .ok (.iinc 2 1, 3) := by decide +kernel
theorem dX10_sink_71 : decode cX10_sink 71 = .ok (.goto (-69), 3) := by decide +kernel
theorem dX10_sink_74 : decode cX10_sink 74 = .ok (.return_, 1) := by decide +kernel
set_option maxRecDepth 20000 in
theorem ggX10_tables_X10_isRule : GoodIn wsX10_tables wsX10_isRule := goodIn_r _ [5, 6, 7, 4, 8] (by decide +kernel) (by decide +kernel)
set_option maxRecDepth 20000 in
theorem gX10_tables_X10_isRule : GoodIn wsX10_tables (va_wsS RX10 100 yX10_isRule wsX10_isRule) := goodIn_app (goodIn_of _ (by decide +kernel)) ggX10_tables_X10_isRule
set_option maxRecDepth 20000 in
theorem ggX10_tables_X10_in : GoodIn wsX10_tables wsX10_in := goodIn_r _ [8] (by decide +kernel) (by decide +kernel)
set_option maxRecDepth 20000 in
theorem gX10_tables_X10_in : GoodIn wsX10_tables (va_wsS RX10 95 yX10_in wsX10_in) := goodIn_app (goodIn_of _ (by decide +kernel)) ggX10_tables_X10_in
set_option maxRecDepth 20000 in
theorem ggX10_tables_X10_refuse : GoodIn wsX10_tables wsX10_refuse := goodIn_r _ [12, 13, 40, 41, 42, 43, 44, 45, 46, 47, 48, 49, 50, 51, 52, 53, 54, 55, 56, 57, 58, 59, 60, 61, 62, 63, 64, 65, 66, 67, 68, 69, 70, 71, 72] (by decide +kernel) (by decide +kernel)
set_option maxRecDepth 20000 in
theorem gX10_tables_X10_refuse : GoodIn wsX10_tables (wsV RX10 84 RX10 yX10_refuse wsX10_refuse) := goodIn_app (goodIn_of _ (by decide +kernel)) ggX10_tables_X10_refuse
set_option maxRecDepth 20000 in
theorem ggX10_tables_X10_sink : GoodIn wsX10_tables wsX10_sink := goodIn_r _ [17, 1, 40, 41, 42, 43, 44, 45, 46, 47, 48, 49, 50, 51, 52, 53, 54, 55, 56, 57, 58, 59, 60, 61, 62, 63, 64, 65, 66, 67, 68, 69, 70, 71, 72] (by decide +kernel) (by decide +kernel)
set_option maxRecDepth 20000 in
theorem gX10_tables_X10_sink : GoodIn wsX10_tables (wsV RX10 213 RX10 yX10_sink wsX10_sink) := goodIn_app (goodIn_of _ (by decide +kernel)) ggX10_tables_X10_sink
set_option maxRecDepth 20000 in
theorem ggX10_tables_X10_seated : GoodIn wsX10_tables wsX10_seated := goodIn_r _ [20] (by decide +kernel) (by decide +kernel)
set_option maxRecDepth 20000 in
theorem gX10_tables_X10_seated : GoodIn wsX10_tables (va_wsS RX10 217 yX10_seated wsX10_seated) := goodIn_app (goodIn_of _ (by decide +kernel)) ggX10_tables_X10_seated
set_option maxRecDepth 20000 in
theorem ggX10_tables_X10_isSeating : GoodIn wsX10_tables wsX10_isSeating := goodIn_r _ [24, 25, 26, 27, 4, 28, 29, 30, 31, 32, 33, 34, 35, 36, 37, 38, 39, 6, 7, 8, 40, 41, 42, 43, 44, 45, 46, 47, 48, 49, 50, 51, 52, 53, 54, 55, 56, 57, 58, 59, 60, 61, 62, 63, 64, 65, 66, 67, 68, 69, 70, 71, 72] (by decide +kernel) (by decide +kernel)
set_option maxRecDepth 20000 in
theorem gX10_tables_X10_isSeating : GoodIn wsX10_tables (wsV RX10 220 RX10 yX10_isSeating wsX10_isSeating) := goodIn_app (goodIn_of _ (by decide +kernel)) ggX10_tables_X10_isSeating
theorem dX10_tables_0 : decode cX10_tables 0 = .ok (.iload_n 1, 1) := by decide +kernel
theorem dX10_tables_1 : decode cX10_tables 1 = .ok (.invokestatic 100, 3) := by decide +kernel
theorem dX10_tables_4 : decode cX10_tables 4 = .ok (.ifCond .eq 43, 3) := by decide +kernel
theorem dX10_tables_7 : decode cX10_tables 7 = .ok (.iload_n 2, 1) := by decide +kernel
theorem dX10_tables_8 : decode cX10_tables 8 = .ok (.iconst 1, 1) := by decide +kernel
theorem dX10_tables_9 : decode cX10_tables 9 = .ok (.iconst 3, 1) := by decide +kernel
theorem dX10_tables_10 : decode cX10_tables 10 = .ok (.invokestatic 95, 3) := by decide +kernel
theorem dX10_tables_13 : decode cX10_tables 13 = .ok (.ifCond .eq 34, 3) := by decide +kernel
theorem dX10_tables_16 : decode cX10_tables 16 = .ok (.iload_n 3, 1) := by decide +kernel
theorem dX10_tables_17 : decode cX10_tables 17 = .ok (.iconst 1, 1) := by decide +kernel
theorem dX10_tables_18 : decode cX10_tables 18 = .ok (.bipush 12, 2) := by decide +kernel
theorem dX10_tables_20 : decode cX10_tables 20 = .ok (.invokestatic 95, 3) := by decide +kernel
theorem dX10_tables_23 : decode cX10_tables 23 = .ok (.ifCond .eq 24, 3) := by decide +kernel
theorem dX10_tables_26 : decode cX10_tables 26 = .ok (.iload 4, 2) := by decide +kernel
theorem dX10_tables_28 : decode cX10_tables 28 = .ok (.iconst 0, 1) := by decide +kernel
theorem dX10_tables_29 : decode cX10_tables 29 = .ok (.bipush 24, 2) := by decide +kernel
theorem dX10_tables_31 : decode cX10_tables 31 = .ok (.invokestatic 95, 3) := by decide +kernel
theorem dX10_tables_34 : decode cX10_tables 34 = .ok (.ifCond .eq 13, 3) := by decide +kernel
theorem dX10_tables_37 : decode cX10_tables 37 = .ok (.iload 5, 2) := by decide +kernel
theorem dX10_tables_39 : decode cX10_tables 39 = .ok (.iconst 0, 1) := by decide +kernel
theorem dX10_tables_40 : decode cX10_tables 40 = .ok (.iconst 1, 1) := by decide +kernel
theorem dX10_tables_41 : decode cX10_tables 41 = .ok (.invokestatic 95, 3) := by decide +kernel
theorem dX10_tables_44 : decode cX10_tables 44 = .ok (.ifCond .ne 10, 3) := by decide +kernel
theorem dX10_tables_47 : decode cX10_tables 47 = .ok (.aload_n 0, 1) := by decide +kernel
theorem dX10_tables_48 : decode cX10_tables 48 = .ok (.bipush (-2), 2) := by decide +kernel
theorem dX10_tables_50 : decode cX10_tables 50 = .ok (.invokevirtual 84, 3) := by decide +kernel
theorem dX10_tables_53 : decode cX10_tables 53 = .ok (.ireturn, 1) := by decide +kernel
theorem dX10_tables_54 : decode cX10_tables 54 = .ok (.iconst 0, 1) := by decide +kernel
theorem dX10_tables_55 : decode cX10_tables 55 = .ok (.istore 6, 2) := by decide +kernel
theorem dX10_tables_57 : decode cX10_tables 57 = .ok (.iload 6, 2) := by decide +kernel
theorem dX10_tables_59 : decode cX10_tables 59 = .ok (.sipush 2197, 3) := by decide +kernel
theorem dX10_tables_62 : decode cX10_tables 62 = .ok (.if_icmp .ge 28, 3) := by decide +kernel
theorem dX10_tables_65 : decode cX10_tables 65 = .ok (.aload_n 0, 1) := by decide +kernel
theorem dX10_tables_66 : decode cX10_tables 66 = .ok (.getfield 78, 3) := by decide +kernel
theorem dX10_tables_69 : decode cX10_tables 69 = .ok (.iload 6, 2) := by decide +kernel
theorem dX10_tables_71 : decode cX10_tables 71 = .ok (.iload 6, 2) := by decide +kernel
theorem dX10_tables_73 : decode cX10_tables 73 = .ok (.ifCond .ne 7, 3) := by decide +kernel
theorem dX10_tables_76 : decode cX10_tables 76 = .ok (.iconst 0, 1) := by decide +kernel
theorem dX10_tables_77 : decode cX10_tables 77 = .ok (.goto 6, 3) := by decide +kernel
theorem dX10_tables_80 : decode cX10_tables 80 = .ok (.sipush 9999, 3) := by decide +kernel
theorem dX10_tables_83 : decode cX10_tables 83 = .ok (.iastore, 1) := by decide +kernel
theorem dX10_tables_84 : decode cX10_tables 84 = .ok (.iinc 6 1, 3) := by decide +kernel
theorem dX10_tables_87 : decode cX10_tables 87 = .ok (.goto (-30), 3) := by decide +kernel
theorem dX10_tables_90 : decode cX10_tables 90 = .ok (.iconst 1, 1) := by decide +kernel
theorem dX10_tables_91 : decode cX10_tables 91 = .ok (.istore 6, 2) := by decide +kernel
theorem dX10_tables_93 : decode cX10_tables 93 = .ok (.iload 6, 2) := by decide +kernel
theorem dX10_tables_95 : decode cX10_tables 95 = .ok (.iload 4, 2) := by decide +kernel
theorem dX10_tables_97 : decode cX10_tables 97 = .ok (.if_icmp .gt 120, 3) := by decide +kernel
theorem dX10_tables_100 : decode cX10_tables 100 = .ok (.aload_n 0, 1) := by decide +kernel
theorem dX10_tables_101 : decode cX10_tables 101 = .ok (.iconst 1, 1) := by decide +kernel
theorem dX10_tables_102 : decode cX10_tables 102 = .ok (.invokevirtual 213, 3) := by decide +kernel
theorem dX10_tables_105 : decode cX10_tables 105 = .ok (.aload_n 0, 1) := by decide +kernel
theorem dX10_tables_106 : decode cX10_tables 106 = .ok (.bipush 13, 2) := by decide +kernel
theorem dX10_tables_108 : decode cX10_tables 108 = .ok (.invokevirtual 213, 3) := by decide +kernel
theorem dX10_tables_111 : decode cX10_tables 111 = .ok (.aload_n 0, 1) := by decide +kernel
theorem dX10_tables_112 : decode cX10_tables 112 = .ok (.sipush 169, 3) := by decide +kernel
theorem dX10_tables_115 : decode cX10_tables 115 = .ok (.invokevirtual 213, 3) := by decide +kernel
theorem dX10_tables_118 : decode cX10_tables 118 = .ok (.iconst 0, 1) := by decide +kernel
theorem dX10_tables_119 : decode cX10_tables 119 = .ok (.istore 7, 2) := by decide +kernel
theorem dX10_tables_121 : decode cX10_tables 121 = .ok (.iload 7, 2) := by decide +kernel
theorem dX10_tables_123 : decode cX10_tables 123 = .ok (.sipush 2197, 3) := by decide +kernel
theorem dX10_tables_126 : decode cX10_tables 126 = .ok (.if_icmp .ge 85, 3) := by decide +kernel
theorem dX10_tables_129 : decode cX10_tables 129 = .ok (.aload_n 0, 1) := by decide +kernel
theorem dX10_tables_130 : decode cX10_tables 130 = .ok (.getfield 78, 3) := by decide +kernel
theorem dX10_tables_133 : decode cX10_tables 133 = .ok (.iload 7, 2) := by decide +kernel
theorem dX10_tables_135 : decode cX10_tables 135 = .ok (.iaload, 1) := by decide +kernel
theorem dX10_tables_136 : decode cX10_tables 136 = .ok (.sipush 9999, 3) := by decide +kernel
theorem dX10_tables_139 : decode cX10_tables 139 = .ok (.if_icmp .ge 29, 3) := by decide +kernel
theorem dX10_tables_142 : decode cX10_tables 142 = .ok (.iload 7, 2) := by decide +kernel
theorem dX10_tables_144 : decode cX10_tables 144 = .ok (.invokestatic 217, 3) := by decide +kernel
theorem dX10_tables_147 : decode cX10_tables 147 = .ok (.iload 6, 2) := by decide +kernel
theorem dX10_tables_149 : decode cX10_tables 149 = .ok (.if_icmp .gt 19, 3) := by decide +kernel
theorem dX10_tables_152 : decode cX10_tables 152 = .ok (.aload_n 0, 1) := by decide +kernel
theorem dX10_tables_153 : decode cX10_tables 153 = .ok (.iload_n 1, 1) := by decide +kernel
theorem dX10_tables_154 : decode cX10_tables 154 = .ok (.iload_n 2, 1) := by decide +kernel
theorem dX10_tables_155 : decode cX10_tables 155 = .ok (.iload_n 3, 1) := by decide +kernel
theorem dX10_tables_156 : decode cX10_tables 156 = .ok (.iload 7, 2) := by decide +kernel
theorem dX10_tables_158 : decode cX10_tables 158 = .ok (.invokevirtual 220, 3) := by decide +kernel
theorem dX10_tables_161 : decode cX10_tables 161 = .ok (.ifCond .eq 7, 3) := by decide +kernel
theorem dX10_tables_164 : decode cX10_tables 164 = .ok (.iconst 1, 1) := by decide +kernel
theorem dX10_tables_165 : decode cX10_tables 165 = .ok (.goto 4, 3) := by decide +kernel
theorem dX10_tables_168 : decode cX10_tables 168 = .ok (.iconst 0, 1) := by decide +kernel
theorem dX10_tables_169 : decode cX10_tables 169 = .ok (.istore 8, 2) := by decide +kernel
theorem dX10_tables_171 : decode cX10_tables 171 = .ok (.aload_n 0, 1) := by decide +kernel
theorem dX10_tables_172 : decode cX10_tables 172 = .ok (.getfield 78, 3) := by decide +kernel
theorem dX10_tables_175 : decode cX10_tables 175 = .ok (.iload 7, 2) := by decide +kernel
theorem dX10_tables_177 : decode cX10_tables 177 = .ok (.iload 8, 2) := by decide +kernel
theorem dX10_tables_179 : decode cX10_tables 179 = .ok (.ifCond .eq 22, 3) := by decide +kernel
theorem dX10_tables_182 : decode cX10_tables 182 = .ok (.aload_n 0, 1) := by decide +kernel
theorem dX10_tables_183 : decode cX10_tables 183 = .ok (.getfield 78, 3) := by decide +kernel
theorem dX10_tables_186 : decode cX10_tables 186 = .ok (.iload 7, 2) := by decide +kernel
theorem dX10_tables_188 : decode cX10_tables 188 = .ok (.iaload, 1) := by decide +kernel
theorem dX10_tables_189 : decode cX10_tables 189 = .ok (.iload 6, 2) := by decide +kernel
theorem dX10_tables_191 : decode cX10_tables 191 = .ok (.iadd, 1) := by decide +kernel
theorem dX10_tables_192 : decode cX10_tables 192 = .ok (.iload 7, 2) := by decide +kernel
theorem dX10_tables_194 : decode cX10_tables 194 = .ok (.invokestatic 217, 3) := by decide +kernel
theorem dX10_tables_197 : decode cX10_tables 197 = .ok (.isub, 1) := by decide +kernel
theorem dX10_tables_198 : decode cX10_tables 198 = .ok (.goto 6, 3) := by decide +kernel
theorem dX10_tables_201 : decode cX10_tables 201 = .ok (.sipush 9999, 3) := by decide +kernel
theorem dX10_tables_204 : decode cX10_tables 204 = .ok (.iastore, 1) := by decide +kernel
theorem dX10_tables_205 : decode cX10_tables 205 = .ok (.iinc 7 1, 3) := by decide +kernel
theorem dX10_tables_208 : decode cX10_tables 208 = .ok (.goto (-87), 3) := by decide +kernel
theorem dX10_tables_211 : decode cX10_tables 211 = .ok (.iinc 6 1, 3) := by decide +kernel
theorem dX10_tables_214 : decode cX10_tables 214 = .ok (.goto (-121), 3) := by decide +kernel
theorem dX10_tables_217 : decode cX10_tables 217 = .ok (.sipush 9999, 3) := by decide +kernel
theorem dX10_tables_220 : decode cX10_tables 220 = .ok (.istore 6, 2) := by decide +kernel
theorem dX10_tables_222 : decode cX10_tables 222 = .ok (.iconst 0, 1) := by decide +kernel
theorem dX10_tables_223 : decode cX10_tables 223 = .ok (.istore 7, 2) := by decide +kernel
theorem dX10_tables_225 : decode cX10_tables 225 = .ok (.iconst 0, 1) := by decide +kernel
theorem dX10_tables_226 : decode cX10_tables 226 = .ok (.istore 8, 2) := by decide +kernel
theorem dX10_tables_228 : decode cX10_tables 228 = .ok (.iload 8, 2) := by decide +kernel
theorem dX10_tables_230 : decode cX10_tables 230 = .ok (.sipush 2197, 3) := by decide +kernel
theorem dX10_tables_233 : decode cX10_tables 233 = .ok (.if_icmp .ge 70, 3) := by decide +kernel
theorem dX10_tables_236 : decode cX10_tables 236 = .ok (.aload_n 0, 1) := by decide +kernel
theorem dX10_tables_237 : decode cX10_tables 237 = .ok (.getfield 78, 3) := by decide +kernel
theorem dX10_tables_240 : decode cX10_tables 240 = .ok (.iload 8, 2) := by decide +kernel
theorem dX10_tables_242 : decode cX10_tables 242 = .ok (.iaload, 1) := by decide +kernel
theorem dX10_tables_243 : decode cX10_tables 243 = .ok (.iload 6, 2) := by decide +kernel
theorem dX10_tables_245 : decode cX10_tables 245 = .ok (.if_icmp .ge 13, 3) := by decide +kernel
theorem dX10_tables_248 : decode cX10_tables 248 = .ok (.aload_n 0, 1) := by decide +kernel
theorem dX10_tables_249 : decode cX10_tables 249 = .ok (.getfield 78, 3) := by decide +kernel
theorem dX10_tables_252 : decode cX10_tables 252 = .ok (.iload 8, 2) := by decide +kernel
theorem dX10_tables_254 : decode cX10_tables 254 = .ok (.iaload, 1) := by decide +kernel
theorem dX10_tables_255 : decode cX10_tables 255 = .ok (.goto 5, 3) := by decide +kernel
theorem dX10_tables_258 : decode cX10_tables 258 = .ok (.iload 6, 2) := by decide +kernel
theorem dX10_tables_260 : decode cX10_tables 260 = .ok (.istore 6, 2) := by decide +kernel
theorem dX10_tables_262 : decode cX10_tables 262 = .ok (.aload_n 0, 1) := by decide +kernel
theorem dX10_tables_263 : decode cX10_tables 263 = .ok (.getfield 78, 3) := by decide +kernel
theorem dX10_tables_266 : decode cX10_tables 266 = .ok (.iload 8, 2) := by decide +kernel
theorem dX10_tables_268 : decode cX10_tables 268 = .ok (.iaload, 1) := by decide +kernel
theorem dX10_tables_269 : decode cX10_tables 269 = .ok (.sipush 9999, 3) := by decide +kernel
theorem dX10_tables_272 : decode cX10_tables 272 = .ok (.if_icmp .ge 21, 3) := by decide +kernel
theorem dX10_tables_275 : decode cX10_tables 275 = .ok (.iload 8, 2) := by decide +kernel
theorem dX10_tables_277 : decode cX10_tables 277 = .ok (.invokestatic 217, 3) := by decide +kernel
theorem dX10_tables_280 : decode cX10_tables 280 = .ok (.iload 7, 2) := by decide +kernel
theorem dX10_tables_282 : decode cX10_tables 282 = .ok (.if_icmp .le 11, 3) := by decide +kernel
theorem dX10_tables_285 : decode cX10_tables 285 = .ok (.iload 8, 2) := by decide +kernel
theorem dX10_tables_287 : decode cX10_tables 287 = .ok (.invokestatic 217, 3) := by decide +kernel
theorem dX10_tables_290 : decode cX10_tables 290 = .ok (.goto 5, 3) := by decide +kernel
theorem dX10_tables_293 : decode cX10_tables 293 = .ok (.iload 7, 2) := by decide +kernel
theorem dX10_tables_295 : decode cX10_tables 295 = .ok (.istore 7, 2) := by decide +kernel
theorem dX10_tables_297 : decode cX10_tables 297 = .ok (.iinc 8 1, 3) := by decide +kernel
theorem dX10_tables_300 : decode cX10_tables 300 = .ok (.goto (-72), 3) := by decide +kernel
theorem dX10_tables_303 : decode cX10_tables 303 = .ok (.iload 5, 2) := by decide +kernel
theorem dX10_tables_305 : decode cX10_tables 305 = .ok (.ifCond .ne 8, 3) := by decide +kernel
theorem dX10_tables_308 : decode cX10_tables 308 = .ok (.iload 6, 2) := by decide +kernel
theorem dX10_tables_310 : decode cX10_tables 310 = .ok (.goto 8, 3) := by decide +kernel
theorem dX10_tables_313 : decode cX10_tables 313 = .ok (.iload 4, 2) := by decide +kernel
theorem dX10_tables_315 : decode cX10_tables 315 = .ok (.iload 7, 2) := by decide +kernel
theorem dX10_tables_317 : decode cX10_tables 317 = .ok (.isub, 1) := by decide +kernel
theorem dX10_tables_318 : decode cX10_tables 318 = .ok (.ireturn, 1) := by decide +kernel
set_option maxRecDepth 20000 in
theorem ggX10_company_X10_in : GoodIn wsX10_company wsX10_in := goodIn_r _ [5] (by decide +kernel) (by decide +kernel)
set_option maxRecDepth 20000 in
theorem gX10_company_X10_in : GoodIn wsX10_company (va_wsS RX10 95 yX10_in wsX10_in) := goodIn_app (goodIn_of _ (by decide +kernel)) ggX10_company_X10_in
set_option maxRecDepth 20000 in
theorem ggX10_company_X10_refuse : GoodIn wsX10_company wsX10_refuse := goodIn_r _ [9, 10, 11, 12, 13, 14, 15, 16, 17, 18, 19, 20, 21, 22, 23, 24, 25, 26, 27, 28, 29, 30, 31, 32, 33, 34, 35, 36, 37, 38, 39, 40, 41, 42, 43] (by decide +kernel) (by decide +kernel)
set_option maxRecDepth 20000 in
theorem gX10_company_X10_refuse : GoodIn wsX10_company (wsV RX10 84 RX10 yX10_refuse wsX10_refuse) := goodIn_app (goodIn_of _ (by decide +kernel)) ggX10_company_X10_refuse
theorem dX10_company_0 : decode cX10_company 0 = .ok (.iload_n 1, 1) := by decide +kernel
theorem dX10_company_1 : decode cX10_company 1 = .ok (.iconst 1, 1) := by decide +kernel
theorem dX10_company_2 : decode cX10_company 2 = .ok (.bipush 20, 2) := by decide +kernel
theorem dX10_company_4 : decode cX10_company 4 = .ok (.invokestatic 95, 3) := by decide +kernel
theorem dX10_company_7 : decode cX10_company 7 = .ok (.ifCond .ne 10, 3) := by decide +kernel
theorem dX10_company_10 : decode cX10_company 10 = .ok (.aload_n 0, 1) := by decide +kernel
theorem dX10_company_11 : decode cX10_company 11 = .ok (.bipush (-2), 2) := by decide +kernel
theorem dX10_company_13 : decode cX10_company 13 = .ok (.invokevirtual 84, 3) := by decide +kernel
theorem dX10_company_16 : decode cX10_company 16 = .ok (.ireturn, 1) := by decide +kernel
theorem dX10_company_17 : decode cX10_company 17 = .ok (.aload_n 0, 1) := by decide +kernel
theorem dX10_company_18 : decode cX10_company 18 = .ok (.getfield 7, 3) := by decide +kernel
theorem dX10_company_21 : decode cX10_company 21 = .ok (.bipush 6, 2) := by decide +kernel
theorem dX10_company_23 : decode cX10_company 23 = .ok (.iaload, 1) := by decide +kernel
theorem dX10_company_24 : decode cX10_company 24 = .ok (.istore_n 2, 1) := by decide +kernel
theorem dX10_company_25 : decode cX10_company 25 = .ok (.iload_n 2, 1) := by decide +kernel
theorem dX10_company_26 : decode cX10_company 26 = .ok (.bipush 8, 2) := by decide +kernel
theorem dX10_company_28 : decode cX10_company 28 = .ok (.if_icmp .ne 10, 3) := by decide +kernel
theorem dX10_company_31 : decode cX10_company 31 = .ok (.aload_n 0, 1) := by decide +kernel
theorem dX10_company_32 : decode cX10_company 32 = .ok (.bipush (-4), 2) := by decide +kernel
theorem dX10_company_34 : decode cX10_company 34 = .ok (.invokevirtual 84, 3) := by decide +kernel
theorem dX10_company_37 : decode cX10_company 37 = .ok (.ireturn, 1) := by decide +kernel
theorem dX10_company_38 : decode cX10_company 38 = .ok (.aload_n 0, 1) := by decide +kernel
theorem dX10_company_39 : decode cX10_company 39 = .ok (.getfield 7, 3) := by decide +kernel
theorem dX10_company_42 : decode cX10_company 42 = .ok (.sipush 349, 3) := by decide +kernel
theorem dX10_company_45 : decode cX10_company 45 = .ok (.iload_n 2, 1) := by decide +kernel
theorem dX10_company_46 : decode cX10_company 46 = .ok (.iadd, 1) := by decide +kernel
theorem dX10_company_47 : decode cX10_company 47 = .ok (.iload_n 1, 1) := by decide +kernel
theorem dX10_company_48 : decode cX10_company 48 = .ok (.iastore, 1) := by decide +kernel
theorem dX10_company_49 : decode cX10_company 49 = .ok (.aload_n 0, 1) := by decide +kernel
theorem dX10_company_50 : decode cX10_company 50 = .ok (.getfield 7, 3) := by decide +kernel
theorem dX10_company_53 : decode cX10_company 53 = .ok (.bipush 6, 2) := by decide +kernel
theorem dX10_company_55 : decode cX10_company 55 = .ok (.dup2, 1) := by decide +kernel
theorem dX10_company_56 : decode cX10_company 56 = .ok (.iaload, 1) := by decide +kernel
theorem dX10_company_57 : decode cX10_company 57 = .ok (.iconst 1, 1) := by decide +kernel
theorem dX10_company_58 : decode cX10_company 58 = .ok (.iadd, 1) := by decide +kernel
theorem dX10_company_59 : decode cX10_company 59 = .ok (.iastore, 1) := by decide +kernel
theorem dX10_company_60 : decode cX10_company 60 = .ok (.iload_n 2, 1) := by decide +kernel
theorem dX10_company_61 : decode cX10_company 61 = .ok (.ireturn, 1) := by decide +kernel
theorem dX10_disperse_0 : decode cX10_disperse 0 = .ok (.aload_n 0, 1) := by decide +kernel
theorem dX10_disperse_1 : decode cX10_disperse 1 = .ok (.getfield 7, 3) := by decide +kernel
theorem dX10_disperse_4 : decode cX10_disperse 4 = .ok (.bipush 6, 2) := by decide +kernel
theorem dX10_disperse_6 : decode cX10_disperse 6 = .ok (.iaload, 1) := by decide +kernel
theorem dX10_disperse_7 : decode cX10_disperse 7 = .ok (.istore_n 1, 1) := by decide +kernel
theorem dX10_disperse_8 : decode cX10_disperse 8 = .ok (.aload_n 0, 1) := by decide +kernel
theorem dX10_disperse_9 : decode cX10_disperse 9 = .ok (.getfield 7, 3) := by decide +kernel
theorem dX10_disperse_12 : decode cX10_disperse 12 = .ok (.bipush 6, 2) := by decide +kernel
theorem dX10_disperse_14 : decode cX10_disperse 14 = .ok (.iconst 0, 1) := by decide +kernel
theorem dX10_disperse_15 : decode cX10_disperse 15 = .ok (.iastore, 1) := by decide +kernel
theorem dX10_disperse_16 : decode cX10_disperse 16 = .ok (.iload_n 1, 1) := by decide +kernel
theorem dX10_disperse_17 : decode cX10_disperse 17 = .ok (.ireturn, 1) := by decide +kernel
set_option maxRecDepth 20000 in
theorem ggX10_put_X10_in : GoodIn wsX10_put wsX10_in := goodIn_r _ [5] (by decide +kernel) (by decide +kernel)
set_option maxRecDepth 20000 in
theorem gX10_put_X10_in : GoodIn wsX10_put (va_wsS RX10 95 yX10_in wsX10_in) := goodIn_app (goodIn_of _ (by decide +kernel)) ggX10_put_X10_in
set_option maxRecDepth 20000 in
theorem ggX10_put_X10_refuse : GoodIn wsX10_put wsX10_refuse := goodIn_r _ [9, 10, 11, 12, 13, 14, 15, 16, 17, 18, 19, 20, 21, 22, 23, 24, 25, 26, 27, 28, 29, 30, 31, 32, 33, 34, 35, 36, 37, 38, 39, 40, 41, 42, 43] (by decide +kernel) (by decide +kernel)
set_option maxRecDepth 20000 in
theorem gX10_put_X10_refuse : GoodIn wsX10_put (wsV RX10 84 RX10 yX10_refuse wsX10_refuse) := goodIn_app (goodIn_of _ (by decide +kernel)) ggX10_put_X10_refuse
theorem dX10_put_0 : decode cX10_put 0 = .ok (.iload_n 1, 1) := by decide +kernel
theorem dX10_put_1 : decode cX10_put 1 = .ok (.iconst 0, 1) := by decide +kernel
theorem dX10_put_2 : decode cX10_put 2 = .ok (.iconst 1, 1) := by decide +kernel
theorem dX10_put_3 : decode cX10_put 3 = .ok (.invokestatic 95, 3) := by decide +kernel
theorem dX10_put_6 : decode cX10_put 6 = .ok (.ifCond .eq 29, 3) := by decide +kernel
theorem dX10_put_9 : decode cX10_put 9 = .ok (.iload_n 2, 1) := by decide +kernel
theorem dX10_put_10 : decode cX10_put 10 = .ok (.iload_n 1, 1) := by decide +kernel
theorem dX10_put_11 : decode cX10_put 11 = .ok (.ifCond .ne 7, 3) := by decide +kernel
theorem dX10_put_14 : decode cX10_put 14 = .ok (.iconst 1, 1) := by decide +kernel
theorem dX10_put_15 : decode cX10_put 15 = .ok (.goto 4, 3) := by decide +kernel
theorem dX10_put_18 : decode cX10_put 18 = .ok (.iconst 0, 1) := by decide +kernel
theorem dX10_put_19 : decode cX10_put 19 = .ok (.iload_n 1, 1) := by decide +kernel
theorem dX10_put_20 : decode cX10_put 20 = .ok (.ifCond .ne 8, 3) := by decide +kernel
theorem dX10_put_23 : decode cX10_put 23 = .ok (.bipush 60, 2) := by decide +kernel
theorem dX10_put_25 : decode cX10_put 25 = .ok (.goto 4, 3) := by decide +kernel
theorem dX10_put_28 : decode cX10_put 28 = .ok (.iconst 3, 1) := by decide +kernel
theorem dX10_put_29 : decode cX10_put 29 = .ok (.invokestatic 95, 3) := by decide +kernel
theorem dX10_put_32 : decode cX10_put 32 = .ok (.ifCond .ne 10, 3) := by decide +kernel
theorem dX10_put_35 : decode cX10_put 35 = .ok (.aload_n 0, 1) := by decide +kernel
theorem dX10_put_36 : decode cX10_put 36 = .ok (.bipush (-2), 2) := by decide +kernel
theorem dX10_put_38 : decode cX10_put 38 = .ok (.invokevirtual 84, 3) := by decide +kernel
theorem dX10_put_41 : decode cX10_put 41 = .ok (.ireturn, 1) := by decide +kernel
theorem dX10_put_42 : decode cX10_put 42 = .ok (.aload_n 0, 1) := by decide +kernel
theorem dX10_put_43 : decode cX10_put 43 = .ok (.getfield 7, 3) := by decide +kernel
theorem dX10_put_46 : decode cX10_put 46 = .ok (.sipush 357, 3) := by decide +kernel
theorem dX10_put_49 : decode cX10_put 49 = .ok (.iload_n 1, 1) := by decide +kernel
theorem dX10_put_50 : decode cX10_put 50 = .ok (.iadd, 1) := by decide +kernel
theorem dX10_put_51 : decode cX10_put 51 = .ok (.iaload, 1) := by decide +kernel
theorem dX10_put_52 : decode cX10_put 52 = .ok (.istore_n 3, 1) := by decide +kernel
theorem dX10_put_53 : decode cX10_put 53 = .ok (.aload_n 0, 1) := by decide +kernel
theorem dX10_put_54 : decode cX10_put 54 = .ok (.getfield 7, 3) := by decide +kernel
theorem dX10_put_57 : decode cX10_put 57 = .ok (.sipush 357, 3) := by decide +kernel
theorem dX10_put_60 : decode cX10_put 60 = .ok (.iload_n 1, 1) := by decide +kernel
theorem dX10_put_61 : decode cX10_put 61 = .ok (.iadd, 1) := by decide +kernel
theorem dX10_put_62 : decode cX10_put 62 = .ok (.iload_n 2, 1) := by decide +kernel
theorem dX10_put_63 : decode cX10_put 63 = .ok (.iastore, 1) := by decide +kernel
theorem dX10_put_64 : decode cX10_put 64 = .ok (.iload_n 3, 1) := by decide +kernel
theorem dX10_put_65 : decode cX10_put 65 = .ok (.ireturn, 1) := by decide +kernel
set_option maxRecDepth 20000 in
theorem ggX10_isTrip_X10_may : GoodIn wsX10_isTrip wsX10_may := goodIn_r _ [6, 1, 7, 8, 5, 9, 10, 11, 12, 13, 14, 15, 16, 17, 18, 19, 20, 21, 22, 23, 24, 25, 26, 27, 28, 29, 30, 31, 32, 33, 34, 35, 36, 37, 38, 39, 40, 41, 42, 43, 44, 45, 46, 47, 48] (by decide +kernel) (by decide +kernel)
set_option maxRecDepth 20000 in
theorem gX10_isTrip_X10_may : GoodIn wsX10_isTrip (wsV RX10 103 RX10 yX10_may wsX10_may) := goodIn_app (goodIn_of _ (by decide +kernel)) ggX10_isTrip_X10_may
theorem dX10_isTrip_0 : decode cX10_isTrip 0 = .ok (.aload_n 0, 1) := by decide +kernel
theorem dX10_isTrip_1 : decode cX10_isTrip 1 = .ok (.getfield 7, 3) := by decide +kernel
theorem dX10_isTrip_4 : decode cX10_isTrip 4 = .ok (.sipush 358, 3) := by decide +kernel
theorem dX10_isTrip_7 : decode cX10_isTrip 7 = .ok (.iaload, 1) := by decide +kernel
theorem dX10_isTrip_8 : decode cX10_isTrip 8 = .ok (.istore_n 3, 1) := by decide +kernel
theorem dX10_isTrip_9 : decode cX10_isTrip 9 = .ok (.iconst 0, 1) := by decide +kernel
theorem dX10_isTrip_10 : decode cX10_isTrip 10 = .ok (.istore 4, 2) := by decide +kernel
theorem dX10_isTrip_12 : decode cX10_isTrip 12 = .ok (.iload 4, 2) := by decide +kernel
theorem dX10_isTrip_14 : decode cX10_isTrip 14 = .ok (.aload_n 0, 1) := by decide +kernel
theorem dX10_isTrip_15 : decode cX10_isTrip 15 = .ok (.getfield 7, 3) := by decide +kernel
theorem dX10_isTrip_18 : decode cX10_isTrip 18 = .ok (.bipush 6, 2) := by decide +kernel
theorem dX10_isTrip_20 : decode cX10_isTrip 20 = .ok (.iaload, 1) := by decide +kernel
theorem dX10_isTrip_21 : decode cX10_isTrip 21 = .ok (.if_icmp .ge 37, 3) := by decide +kernel
theorem dX10_isTrip_24 : decode cX10_isTrip 24 = .ok (.iload_n 3, 1) := by decide +kernel
theorem dX10_isTrip_25 : decode cX10_isTrip 25 = .ok (.iload_n 2, 1) := by decide +kernel
theorem dX10_isTrip_26 : decode cX10_isTrip 26 = .ok (.iload 4, 2) := by decide +kernel
theorem dX10_isTrip_28 : decode cX10_isTrip 28 = .ok (.ishr, 1) := by decide +kernel
theorem dX10_isTrip_29 : decode cX10_isTrip 29 = .ok (.iconst 1, 1) := by decide +kernel
theorem dX10_isTrip_30 : decode cX10_isTrip 30 = .ok (.iand, 1) := by decide +kernel
theorem dX10_isTrip_31 : decode cX10_isTrip 31 = .ok (.iconst 1, 1) := by decide +kernel
theorem dX10_isTrip_32 : decode cX10_isTrip 32 = .ok (.if_icmp .ne 17, 3) := by decide +kernel
theorem dX10_isTrip_35 : decode cX10_isTrip 35 = .ok (.aload_n 0, 1) := by decide +kernel
theorem dX10_isTrip_36 : decode cX10_isTrip 36 = .ok (.getfield 7, 3) := by decide +kernel
theorem dX10_isTrip_39 : decode cX10_isTrip 39 = .ok (.sipush 349, 3) := by decide +kernel
theorem dX10_isTrip_42 : decode cX10_isTrip 42 = .ok (.iload 4, 2) := by decide +kernel
theorem dX10_isTrip_44 : decode cX10_isTrip 44 = .ok (.iadd, 1) := by decide +kernel
theorem dX10_isTrip_45 : decode cX10_isTrip 45 = .ok (.iaload, 1) := by decide +kernel
theorem dX10_isTrip_46 : decode cX10_isTrip 46 = .ok (.goto 4, 3) := by decide +kernel
theorem dX10_isTrip_49 : decode cX10_isTrip 49 = .ok (.iconst 0, 1) := by decide +kernel
theorem dX10_isTrip_50 : decode cX10_isTrip 50 = .ok (.iadd, 1) := by decide +kernel
theorem dX10_isTrip_51 : decode cX10_isTrip 51 = .ok (.istore_n 3, 1) := by decide +kernel
theorem dX10_isTrip_52 : decode cX10_isTrip 52 = .ok (.iinc 4 1, 3) := by decide +kernel
theorem dX10_isTrip_55 : decode cX10_isTrip 55 = .ok (.goto (-43), 3) := by decide +kernel
theorem dX10_isTrip_58 : decode cX10_isTrip 58 = .ok (.iload_n 3, 1) := by decide +kernel
theorem dX10_isTrip_59 : decode cX10_isTrip 59 = .ok (.aload_n 0, 1) := by decide +kernel
theorem dX10_isTrip_60 : decode cX10_isTrip 60 = .ok (.getfield 7, 3) := by decide +kernel
theorem dX10_isTrip_63 : decode cX10_isTrip 63 = .ok (.sipush 357, 3) := by decide +kernel
theorem dX10_isTrip_66 : decode cX10_isTrip 66 = .ok (.iaload, 1) := by decide +kernel
theorem dX10_isTrip_67 : decode cX10_isTrip 67 = .ok (.if_icmp .gt 16, 3) := by decide +kernel
theorem dX10_isTrip_70 : decode cX10_isTrip 70 = .ok (.aload_n 0, 1) := by decide +kernel
theorem dX10_isTrip_71 : decode cX10_isTrip 71 = .ok (.iload_n 1, 1) := by decide +kernel
theorem dX10_isTrip_72 : decode cX10_isTrip 72 = .ok (.iload_n 3, 1) := by decide +kernel
theorem dX10_isTrip_73 : decode cX10_isTrip 73 = .ok (.invokevirtual 103, 3) := by decide +kernel
theorem dX10_isTrip_76 : decode cX10_isTrip 76 = .ok (.ifCond .eq 7, 3) := by decide +kernel
theorem dX10_isTrip_79 : decode cX10_isTrip 79 = .ok (.iconst 1, 1) := by decide +kernel
theorem dX10_isTrip_80 : decode cX10_isTrip 80 = .ok (.goto 4, 3) := by decide +kernel
theorem dX10_isTrip_83 : decode cX10_isTrip 83 = .ok (.iconst 0, 1) := by decide +kernel
theorem dX10_isTrip_84 : decode cX10_isTrip 84 = .ok (.ireturn, 1) := by decide +kernel
set_option maxRecDepth 20000 in
theorem ggX10_ferry_X10_isRule : GoodIn wsX10_ferry wsX10_isRule := goodIn_r _ [6, 7, 8, 5, 9] (by decide +kernel) (by decide +kernel)
set_option maxRecDepth 20000 in
theorem gX10_ferry_X10_isRule : GoodIn wsX10_ferry (va_wsS RX10 100 yX10_isRule wsX10_isRule) := goodIn_app (goodIn_of _ (by decide +kernel)) ggX10_ferry_X10_isRule
set_option maxRecDepth 20000 in
theorem ggX10_ferry_X10_in : GoodIn wsX10_ferry wsX10_in := goodIn_r _ [9] (by decide +kernel) (by decide +kernel)
set_option maxRecDepth 20000 in
theorem gX10_ferry_X10_in : GoodIn wsX10_ferry (va_wsS RX10 95 yX10_in wsX10_in) := goodIn_app (goodIn_of _ (by decide +kernel)) ggX10_ferry_X10_in
set_option maxRecDepth 20000 in
theorem ggX10_ferry_X10_refuse : GoodIn wsX10_ferry wsX10_refuse := goodIn_r _ [13, 14, 29, 30, 31, 32, 33, 34, 35, 36, 37, 38, 39, 40, 41, 42, 43, 44, 45, 46, 47, 48, 49, 50, 51, 52, 53, 54, 55, 56, 57, 58, 59, 60, 61] (by decide +kernel) (by decide +kernel)
set_option maxRecDepth 20000 in
theorem gX10_ferry_X10_refuse : GoodIn wsX10_ferry (wsV RX10 84 RX10 yX10_refuse wsX10_refuse) := goodIn_app (goodIn_of _ (by decide +kernel)) ggX10_ferry_X10_refuse
set_option maxRecDepth 20000 in
theorem ggX10_ferry_X10_isTrip : GoodIn wsX10_ferry wsX10_isTrip := goodIn_r _ [18, 1, 19, 20, 21, 5, 22, 23, 24, 25, 26, 27, 28, 7, 8, 9, 29, 30, 31, 32, 33, 34, 35, 36, 37, 38, 39, 40, 41, 42, 43, 44, 45, 46, 47, 48, 49, 50, 51, 52, 53, 54, 55, 56, 57, 58, 59, 60, 61] (by decide +kernel) (by decide +kernel)
set_option maxRecDepth 20000 in
theorem gX10_ferry_X10_isTrip : GoodIn wsX10_ferry (wsV RX10 224 RX10 yX10_isTrip wsX10_isTrip) := goodIn_app (goodIn_of _ (by decide +kernel)) ggX10_ferry_X10_isTrip
theorem dX10_ferry_0 : decode cX10_ferry 0 = .ok (.iload_n 1, 1) := by decide +kernel
theorem dX10_ferry_1 : decode cX10_ferry 1 = .ok (.invokestatic 100, 3) := by decide +kernel
theorem dX10_ferry_4 : decode cX10_ferry 4 = .ok (.ifCond .eq 12, 3) := by decide +kernel
theorem dX10_ferry_7 : decode cX10_ferry 7 = .ok (.iload_n 2, 1) := by decide +kernel
theorem dX10_ferry_8 : decode cX10_ferry 8 = .ok (.iconst 0, 1) := by decide +kernel
theorem dX10_ferry_9 : decode cX10_ferry 9 = .ok (.iconst 1, 1) := by decide +kernel
theorem dX10_ferry_10 : decode cX10_ferry 10 = .ok (.invokestatic 95, 3) := by decide +kernel
theorem dX10_ferry_13 : decode cX10_ferry 13 = .ok (.ifCond .ne 10, 3) := by decide +kernel
theorem dX10_ferry_16 : decode cX10_ferry 16 = .ok (.aload_n 0, 1) := by decide +kernel
theorem dX10_ferry_17 : decode cX10_ferry 17 = .ok (.bipush (-2), 2) := by decide +kernel
theorem dX10_ferry_19 : decode cX10_ferry 19 = .ok (.invokevirtual 84, 3) := by decide +kernel
theorem dX10_ferry_22 : decode cX10_ferry 22 = .ok (.ireturn, 1) := by decide +kernel
theorem dX10_ferry_23 : decode cX10_ferry 23 = .ok (.iconst 1, 1) := by decide +kernel
theorem dX10_ferry_24 : decode cX10_ferry 24 = .ok (.aload_n 0, 1) := by decide +kernel
theorem dX10_ferry_25 : decode cX10_ferry 25 = .ok (.getfield 7, 3) := by decide +kernel
theorem dX10_ferry_28 : decode cX10_ferry 28 = .ok (.bipush 6, 2) := by decide +kernel
theorem dX10_ferry_30 : decode cX10_ferry 30 = .ok (.iaload, 1) := by decide +kernel
theorem dX10_ferry_31 : decode cX10_ferry 31 = .ok (.ishl, 1) := by decide +kernel
theorem dX10_ferry_32 : decode cX10_ferry 32 = .ok (.iconst 1, 1) := by decide +kernel
theorem dX10_ferry_33 : decode cX10_ferry 33 = .ok (.isub, 1) := by decide +kernel
theorem dX10_ferry_34 : decode cX10_ferry 34 = .ok (.istore_n 3, 1) := by decide +kernel
theorem dX10_ferry_35 : decode cX10_ferry 35 = .ok (.aload_n 0, 1) := by decide +kernel
theorem dX10_ferry_36 : decode cX10_ferry 36 = .ok (.getfield 81, 3) := by decide +kernel
theorem dX10_ferry_39 : decode cX10_ferry 39 = .ok (.iconst 0, 1) := by decide +kernel
theorem dX10_ferry_40 : decode cX10_ferry 40 = .ok (.iconst 0, 1) := by decide +kernel
theorem dX10_ferry_41 : decode cX10_ferry 41 = .ok (.iastore, 1) := by decide +kernel
theorem dX10_ferry_42 : decode cX10_ferry 42 = .ok (.iconst 1, 1) := by decide +kernel
theorem dX10_ferry_43 : decode cX10_ferry 43 = .ok (.istore 4, 2) := by decide +kernel
theorem dX10_ferry_45 : decode cX10_ferry 45 = .ok (.iload 4, 2) := by decide +kernel
theorem dX10_ferry_47 : decode cX10_ferry 47 = .ok (.iload_n 3, 1) := by decide +kernel
theorem dX10_ferry_48 : decode cX10_ferry 48 = .ok (.if_icmp .gt 99, 3) := by decide +kernel
theorem dX10_ferry_51 : decode cX10_ferry 51 = .ok (.aload_n 0, 1) := by decide +kernel
theorem dX10_ferry_52 : decode cX10_ferry 52 = .ok (.getfield 81, 3) := by decide +kernel
theorem dX10_ferry_55 : decode cX10_ferry 55 = .ok (.iload 4, 2) := by decide +kernel
theorem dX10_ferry_57 : decode cX10_ferry 57 = .ok (.sipush 9999, 3) := by decide +kernel
theorem dX10_ferry_60 : decode cX10_ferry 60 = .ok (.iastore, 1) := by decide +kernel
theorem dX10_ferry_61 : decode cX10_ferry 61 = .ok (.iload 4, 2) := by decide +kernel
theorem dX10_ferry_63 : decode cX10_ferry 63 = .ok (.istore 5, 2) := by decide +kernel
theorem dX10_ferry_65 : decode cX10_ferry 65 = .ok (.iload 5, 2) := by decide +kernel
theorem dX10_ferry_67 : decode cX10_ferry 67 = .ok (.ifCond .le 74, 3) := by decide +kernel
theorem dX10_ferry_70 : decode cX10_ferry 70 = .ok (.aload_n 0, 1) := by decide +kernel
theorem dX10_ferry_71 : decode cX10_ferry 71 = .ok (.getfield 81, 3) := by decide +kernel
theorem dX10_ferry_74 : decode cX10_ferry 74 = .ok (.iload 4, 2) := by decide +kernel
theorem dX10_ferry_76 : decode cX10_ferry 76 = .ok (.iload 5, 2) := by decide +kernel
theorem dX10_ferry_78 : decode cX10_ferry 78 = .ok (.iconst (-1), 1) := by decide +kernel
theorem dX10_ferry_79 : decode cX10_ferry 79 = .ok (.ixor, 1) := by decide +kernel
theorem dX10_ferry_80 : decode cX10_ferry 80 = .ok (.iand, 1) := by decide +kernel
theorem dX10_ferry_81 : decode cX10_ferry 81 = .ok (.iaload, 1) := by decide +kernel
theorem dX10_ferry_82 : decode cX10_ferry 82 = .ok (.iconst 1, 1) := by decide +kernel
theorem dX10_ferry_83 : decode cX10_ferry 83 = .ok (.iadd, 1) := by decide +kernel
theorem dX10_ferry_84 : decode cX10_ferry 84 = .ok (.istore 6, 2) := by decide +kernel
theorem dX10_ferry_86 : decode cX10_ferry 86 = .ok (.iload 5, 2) := by decide +kernel
theorem dX10_ferry_88 : decode cX10_ferry 88 = .ok (.iload 4, 2) := by decide +kernel
theorem dX10_ferry_90 : decode cX10_ferry 90 = .ok (.iand, 1) := by decide +kernel
theorem dX10_ferry_91 : decode cX10_ferry 91 = .ok (.iload 4, 2) := by decide +kernel
theorem dX10_ferry_93 : decode cX10_ferry 93 = .ok (.ineg, 1) := by decide +kernel
theorem dX10_ferry_94 : decode cX10_ferry 94 = .ok (.iand, 1) := by decide +kernel
theorem dX10_ferry_95 : decode cX10_ferry 95 = .ok (.ifCond .eq 34, 3) := by decide +kernel
theorem dX10_ferry_98 : decode cX10_ferry 98 = .ok (.iload 6, 2) := by decide +kernel
theorem dX10_ferry_100 : decode cX10_ferry 100 = .ok (.aload_n 0, 1) := by decide +kernel
theorem dX10_ferry_101 : decode cX10_ferry 101 = .ok (.getfield 81, 3) := by decide +kernel
theorem dX10_ferry_104 : decode cX10_ferry 104 = .ok (.iload 4, 2) := by decide +kernel
theorem dX10_ferry_106 : decode cX10_ferry 106 = .ok (.iaload, 1) := by decide +kernel
theorem dX10_ferry_107 : decode cX10_ferry 107 = .ok (.if_icmp .ge 22, 3) := by decide +kernel
theorem dX10_ferry_110 : decode cX10_ferry 110 = .ok (.aload_n 0, 1) := by decide +kernel
theorem dX10_ferry_111 : decode cX10_ferry 111 = .ok (.iload_n 1, 1) := by decide +kernel
theorem dX10_ferry_112 : decode cX10_ferry 112 = .ok (.iload 5, 2) := by decide +kernel
theorem dX10_ferry_114 : decode cX10_ferry 114 = .ok (.invokevirtual 224, 3) := by decide +kernel
theorem dX10_ferry_117 : decode cX10_ferry 117 = .ok (.ifCond .eq 12, 3) := by decide +kernel
theorem dX10_ferry_120 : decode cX10_ferry 120 = .ok (.aload_n 0, 1) := by decide +kernel
theorem dX10_ferry_121 : decode cX10_ferry 121 = .ok (.getfield 81, 3) := by decide +kernel
theorem dX10_ferry_124 : decode cX10_ferry 124 = .ok (.iload 4, 2) := by decide +kernel
theorem dX10_ferry_126 : decode cX10_ferry 126 = .ok (.iload 6, 2) := by decide +kernel
theorem dX10_ferry_128 : decode cX10_ferry 128 = .ok (.iastore, 1) := by decide +kernel
theorem dX10_ferry_129 : decode cX10_ferry 129 = .ok (.iload 5, 2) := by decide +kernel
theorem dX10_ferry_131 : decode cX10_ferry 131 = .ok (.iconst 1, 1) := by decide +kernel
theorem dX10_ferry_132 : decode cX10_ferry 132 = .ok (.isub, 1) := by decide +kernel
theorem dX10_ferry_133 : decode cX10_ferry 133 = .ok (.iload 4, 2) := by decide +kernel
theorem dX10_ferry_135 : decode cX10_ferry 135 = .ok (.iand, 1) := by decide +kernel
theorem dX10_ferry_136 : decode cX10_ferry 136 = .ok (.istore 5, 2) := by decide +kernel
theorem dX10_ferry_138 : decode cX10_ferry 138 = .ok (.goto (-73), 3) := by decide +kernel
theorem dX10_ferry_141 : decode cX10_ferry 141 = .ok (.iinc 4 1, 3) := by decide +kernel
theorem dX10_ferry_144 : decode cX10_ferry 144 = .ok (.goto (-99), 3) := by decide +kernel
theorem dX10_ferry_147 : decode cX10_ferry 147 = .ok (.aload_n 0, 1) := by decide +kernel
theorem dX10_ferry_148 : decode cX10_ferry 148 = .ok (.getfield 81, 3) := by decide +kernel
theorem dX10_ferry_151 : decode cX10_ferry 151 = .ok (.iload_n 3, 1) := by decide +kernel
theorem dX10_ferry_152 : decode cX10_ferry 152 = .ok (.iaload, 1) := by decide +kernel
theorem dX10_ferry_153 : decode cX10_ferry 153 = .ok (.sipush 9999, 3) := by decide +kernel
theorem dX10_ferry_156 : decode cX10_ferry 156 = .ok (.if_icmp .lt 5, 3) := by decide +kernel
theorem dX10_ferry_159 : decode cX10_ferry 159 = .ok (.iconst (-1), 1) := by decide +kernel
theorem dX10_ferry_160 : decode cX10_ferry 160 = .ok (.ireturn, 1) := by decide +kernel
theorem dX10_ferry_161 : decode cX10_ferry 161 = .ok (.iload_n 2, 1) := by decide +kernel
theorem dX10_ferry_162 : decode cX10_ferry 162 = .ok (.ifCond .eq 7, 3) := by decide +kernel
theorem dX10_ferry_165 : decode cX10_ferry 165 = .ok (.iload_n 3, 1) := by decide +kernel
theorem dX10_ferry_166 : decode cX10_ferry 166 = .ok (.ifCond .ne 10, 3) := by decide +kernel
theorem dX10_ferry_169 : decode cX10_ferry 169 = .ok (.aload_n 0, 1) := by decide +kernel
theorem dX10_ferry_170 : decode cX10_ferry 170 = .ok (.getfield 81, 3) := by decide +kernel
theorem dX10_ferry_173 : decode cX10_ferry 173 = .ok (.iload_n 3, 1) := by decide +kernel
theorem dX10_ferry_174 : decode cX10_ferry 174 = .ok (.iaload, 1) := by decide +kernel
theorem dX10_ferry_175 : decode cX10_ferry 175 = .ok (.ireturn, 1) := by decide +kernel
theorem dX10_ferry_176 : decode cX10_ferry 176 = .ok (.iconst 1, 1) := by decide +kernel
theorem dX10_ferry_177 : decode cX10_ferry 177 = .ok (.istore 4, 2) := by decide +kernel
theorem dX10_ferry_179 : decode cX10_ferry 179 = .ok (.iload 4, 2) := by decide +kernel
theorem dX10_ferry_181 : decode cX10_ferry 181 = .ok (.iconst 1, 1) := by decide +kernel
theorem dX10_ferry_182 : decode cX10_ferry 182 = .ok (.iand, 1) := by decide +kernel
theorem dX10_ferry_183 : decode cX10_ferry 183 = .ok (.ifCond .eq 35, 3) := by decide +kernel
theorem dX10_ferry_186 : decode cX10_ferry 186 = .ok (.aload_n 0, 1) := by decide +kernel
theorem dX10_ferry_187 : decode cX10_ferry 187 = .ok (.getfield 81, 3) := by decide +kernel
theorem dX10_ferry_190 : decode cX10_ferry 190 = .ok (.iload_n 3, 1) := by decide +kernel
theorem dX10_ferry_191 : decode cX10_ferry 191 = .ok (.iload 4, 2) := by decide +kernel
theorem dX10_ferry_193 : decode cX10_ferry 193 = .ok (.iconst (-1), 1) := by decide +kernel
theorem dX10_ferry_194 : decode cX10_ferry 194 = .ok (.ixor, 1) := by decide +kernel
theorem dX10_ferry_195 : decode cX10_ferry 195 = .ok (.iand, 1) := by decide +kernel
theorem dX10_ferry_196 : decode cX10_ferry 196 = .ok (.iaload, 1) := by decide +kernel
theorem dX10_ferry_197 : decode cX10_ferry 197 = .ok (.iconst 1, 1) := by decide +kernel
theorem dX10_ferry_198 : decode cX10_ferry 198 = .ok (.iadd, 1) := by decide +kernel
theorem dX10_ferry_199 : decode cX10_ferry 199 = .ok (.aload_n 0, 1) := by decide +kernel
theorem dX10_ferry_200 : decode cX10_ferry 200 = .ok (.getfield 81, 3) := by decide +kernel
theorem dX10_ferry_203 : decode cX10_ferry 203 = .ok (.iload_n 3, 1) := by decide +kernel
theorem dX10_ferry_204 : decode cX10_ferry 204 = .ok (.iaload, 1) := by decide +kernel
theorem dX10_ferry_205 : decode cX10_ferry 205 = .ok (.if_icmp .ne 13, 3) := by decide +kernel
theorem dX10_ferry_208 : decode cX10_ferry 208 = .ok (.aload_n 0, 1) := by decide +kernel
theorem dX10_ferry_209 : decode cX10_ferry 209 = .ok (.iload_n 1, 1) := by decide +kernel
theorem dX10_ferry_210 : decode cX10_ferry 210 = .ok (.iload 4, 2) := by decide +kernel
theorem dX10_ferry_212 : decode cX10_ferry 212 = .ok (.invokevirtual 224, 3) := by decide +kernel
theorem dX10_ferry_215 : decode cX10_ferry 215 = .ok (.ifCond .ne 9, 3) := by decide +kernel
theorem dX10_ferry_218 : decode cX10_ferry 218 = .ok (.iinc 4 1, 3) := by decide +kernel
theorem dX10_ferry_221 : decode cX10_ferry 221 = .ok (.goto (-42), 3) := by decide +kernel
theorem dX10_ferry_224 : decode cX10_ferry 224 = .ok (.iload 4, 2) := by decide +kernel
theorem dX10_ferry_226 : decode cX10_ferry 226 = .ok (.ireturn, 1) := by decide +kernel
set_option maxRecDepth 20000 in
theorem ggX10_part_X10_refuse : GoodIn wsX10_part wsX10_refuse := goodIn_r _ [7, 8, 9, 10, 11, 12, 13, 14, 15, 16, 17, 18, 19, 20, 21, 22, 23, 24, 25, 26, 27, 28, 29, 30, 31, 32, 33, 34, 35, 36, 37, 38, 39, 40, 41] (by decide +kernel) (by decide +kernel)
set_option maxRecDepth 20000 in
theorem gX10_part_X10_refuse : GoodIn wsX10_part (wsV RX10 84 RX10 yX10_refuse wsX10_refuse) := goodIn_app (goodIn_of _ (by decide +kernel)) ggX10_part_X10_refuse
theorem dX10_part_0 : decode cX10_part 0 = .ok (.iload_n 1, 1) := by decide +kernel
theorem dX10_part_1 : decode cX10_part 1 = .ok (.ifCond .ne 10, 3) := by decide +kernel
theorem dX10_part_4 : decode cX10_part 4 = .ok (.aload_n 0, 1) := by decide +kernel
theorem dX10_part_5 : decode cX10_part 5 = .ok (.getfield 192, 3) := by decide +kernel
theorem dX10_part_8 : decode cX10_part 8 = .ok (.goto 21, 3) := by decide +kernel
theorem dX10_part_11 : decode cX10_part 11 = .ok (.iload_n 1, 1) := by decide +kernel
theorem dX10_part_12 : decode cX10_part 12 = .ok (.iconst 1, 1) := by decide +kernel
theorem dX10_part_13 : decode cX10_part 13 = .ok (.if_icmp .ne 10, 3) := by decide +kernel
theorem dX10_part_16 : decode cX10_part 16 = .ok (.aload_n 0, 1) := by decide +kernel
theorem dX10_part_17 : decode cX10_part 17 = .ok (.getfield 20, 3) := by decide +kernel
theorem dX10_part_20 : decode cX10_part 20 = .ok (.goto 9, 3) := by decide +kernel
theorem dX10_part_23 : decode cX10_part 23 = .ok (.aload_n 0, 1) := by decide +kernel
theorem dX10_part_24 : decode cX10_part 24 = .ok (.bipush (-2), 2) := by decide +kernel
theorem dX10_part_26 : decode cX10_part 26 = .ok (.invokevirtual 84, 3) := by decide +kernel
theorem dX10_part_29 : decode cX10_part 29 = .ok (.ireturn, 1) := by decide +kernel
theorem dX10_copyAll_0 : decode cX10_copyAll 0 = .ok (.iconst 0, 1) := by decide +kernel
theorem dX10_copyAll_1 : decode cX10_copyAll 1 = .ok (.istore_n 3, 1) := by decide +kernel
theorem dX10_copyAll_2 : decode cX10_copyAll 2 = .ok (.iload_n 3, 1) := by decide +kernel
theorem dX10_copyAll_3 : decode cX10_copyAll 3 = .ok (.sipush 360, 3) := by decide +kernel
theorem dX10_copyAll_6 : decode cX10_copyAll 6 = .ok (.if_icmp .ge 33, 3) := by decide +kernel
theorem dX10_copyAll_9 : decode cX10_copyAll 9 = .ok (.aload_n 0, 1) := by decide +kernel
theorem dX10_copyAll_10 : decode cX10_copyAll 10 = .ok (.getfield 7, 3) := by decide +kernel
theorem dX10_copyAll_13 : decode cX10_copyAll 13 = .ok (.sipush 360, 3) := by decide +kernel
theorem dX10_copyAll_16 : decode cX10_copyAll 16 = .ok (.iload_n 2, 1) := by decide +kernel
theorem dX10_copyAll_17 : decode cX10_copyAll 17 = .ok (.imul, 1) := by decide +kernel
theorem dX10_copyAll_18 : decode cX10_copyAll 18 = .ok (.iload_n 3, 1) := by decide +kernel
theorem dX10_copyAll_19 : decode cX10_copyAll 19 = .ok (.iadd, 1) := by decide +kernel
theorem dX10_copyAll_20 : decode cX10_copyAll 20 = .ok (.aload_n 0, 1) := by decide +kernel
theorem dX10_copyAll_21 : decode cX10_copyAll 21 = .ok (.getfield 7, 3) := by decide +kernel
theorem dX10_copyAll_24 : decode cX10_copyAll 24 = .ok (.sipush 360, 3) := by decide +kernel
theorem dX10_copyAll_27 : decode cX10_copyAll 27 = .ok (.iload_n 1, 1) := by decide +kernel
theorem dX10_copyAll_28 : decode cX10_copyAll 28 = .ok (.imul, 1) := by decide +kernel
theorem dX10_copyAll_29 : decode cX10_copyAll 29 = .ok (.iload_n 3, 1) := by decide +kernel
theorem dX10_copyAll_30 : decode cX10_copyAll 30 = .ok (.iadd, 1) := by decide +kernel
theorem dX10_copyAll_31 : decode cX10_copyAll 31 = .ok (.iaload, 1) := by decide +kernel
theorem dX10_copyAll_32 : decode cX10_copyAll 32 = .ok (.iastore, 1) := by decide +kernel
theorem dX10_copyAll_33 : decode cX10_copyAll 33 = .ok (.iinc 3 1, 3) := by decide +kernel
theorem dX10_copyAll_36 : decode cX10_copyAll 36 = .ok (.goto (-34), 3) := by decide +kernel
theorem dX10_copyAll_39 : decode cX10_copyAll 39 = .ok (.return_, 1) := by decide +kernel
set_option maxRecDepth 20000 in
theorem ggX10_image_X10_in : GoodIn wsX10_image wsX10_in := goodIn_r _ [5] (by decide +kernel) (by decide +kernel)
set_option maxRecDepth 20000 in
theorem gX10_image_X10_in : GoodIn wsX10_image (va_wsS RX10 95 yX10_in wsX10_in) := goodIn_app (goodIn_of _ (by decide +kernel)) ggX10_image_X10_in
set_option maxRecDepth 20000 in
theorem ggX10_image_X10_refuse : GoodIn wsX10_image wsX10_refuse := goodIn_r _ [9, 10, 16, 17, 18, 19, 20, 21, 22, 23, 24, 25, 26, 27, 28, 29, 30, 31, 32, 33, 34, 35, 36, 37, 38, 39, 40, 41, 42, 43, 44, 45, 46, 47, 48] (by decide +kernel) (by decide +kernel)
set_option maxRecDepth 20000 in
theorem gX10_image_X10_refuse : GoodIn wsX10_image (wsV RX10 84 RX10 yX10_refuse wsX10_refuse) := goodIn_app (goodIn_of _ (by decide +kernel)) ggX10_image_X10_refuse
set_option maxRecDepth 20000 in
theorem ggX10_image_X10_copyAll : GoodIn wsX10_image wsX10_copyAll := goodIn_r _ [14, 15, 16, 17, 18, 19, 20, 21, 22, 23, 24, 25, 26, 27, 28, 29, 30, 31, 32, 33, 34, 35, 36, 37, 38, 39, 40, 41, 42, 43, 44, 45, 46, 47, 48] (by decide +kernel) (by decide +kernel)
set_option maxRecDepth 20000 in
theorem gX10_image_X10_copyAll : GoodIn wsX10_image (wsV RX10 227 RX10 yX10_copyAll wsX10_copyAll) := goodIn_app (goodIn_of _ (by decide +kernel)) ggX10_image_X10_copyAll
theorem dX10_image_0 : decode cX10_image 0 = .ok (.iload_n 1, 1) := by decide +kernel
theorem dX10_image_1 : decode cX10_image 1 = .ok (.iconst 0, 1) := by decide +kernel
theorem dX10_image_2 : decode cX10_image 2 = .ok (.iconst 1, 1) := by decide +kernel
theorem dX10_image_3 : decode cX10_image 3 = .ok (.invokestatic 95, 3) := by decide +kernel
theorem dX10_image_6 : decode cX10_image 6 = .ok (.ifCond .ne 10, 3) := by decide +kernel
theorem dX10_image_9 : decode cX10_image 9 = .ok (.aload_n 0, 1) := by decide +kernel
theorem dX10_image_10 : decode cX10_image 10 = .ok (.bipush (-2), 2) := by decide +kernel
theorem dX10_image_12 : decode cX10_image 12 = .ok (.invokevirtual 84, 3) := by decide +kernel
theorem dX10_image_15 : decode cX10_image 15 = .ok (.ireturn, 1) := by decide +kernel
theorem dX10_image_16 : decode cX10_image 16 = .ok (.aload_n 0, 1) := by decide +kernel
theorem dX10_image_17 : decode cX10_image 17 = .ok (.iconst 0, 1) := by decide +kernel
theorem dX10_image_18 : decode cX10_image 18 = .ok (.iconst 1, 1) := by decide +kernel
theorem dX10_image_19 : decode cX10_image 19 = .ok (.iload_n 1, 1) := by decide +kernel
theorem dX10_image_20 : decode cX10_image 20 = .ok (.iadd, 1) := by decide +kernel
theorem dX10_image_21 : decode cX10_image 21 = .ok (.invokevirtual 227, 3) := by decide +kernel
theorem dX10_image_24 : decode cX10_image 24 = .ok (.aload_n 0, 1) := by decide +kernel
theorem dX10_image_25 : decode cX10_image 25 = .ok (.getfield 13, 3) := by decide +kernel
theorem dX10_image_28 : decode cX10_image 28 = .ok (.iload_n 1, 1) := by decide +kernel
theorem dX10_image_29 : decode cX10_image 29 = .ok (.iconst 1, 1) := by decide +kernel
theorem dX10_image_30 : decode cX10_image 30 = .ok (.bastore, 1) := by decide +kernel
theorem dX10_image_31 : decode cX10_image 31 = .ok (.iconst 1, 1) := by decide +kernel
theorem dX10_image_32 : decode cX10_image 32 = .ok (.ireturn, 1) := by decide +kernel
set_option maxRecDepth 20000 in
theorem ggX10_from_X10_in : GoodIn wsX10_from wsX10_in := goodIn_r _ [5] (by decide +kernel) (by decide +kernel)
set_option maxRecDepth 20000 in
theorem gX10_from_X10_in : GoodIn wsX10_from (va_wsS RX10 95 yX10_in wsX10_in) := goodIn_app (goodIn_of _ (by decide +kernel)) ggX10_from_X10_in
set_option maxRecDepth 20000 in
theorem ggX10_from_X10_refuse : GoodIn wsX10_from wsX10_refuse := goodIn_r _ [9, 10, 16, 17, 18, 19, 20, 21, 22, 23, 24, 25, 26, 27, 28, 29, 30, 31, 32, 33, 34, 35, 36, 37, 38, 39, 40, 41, 42, 43, 44, 45, 46, 47, 48] (by decide +kernel) (by decide +kernel)
set_option maxRecDepth 20000 in
theorem gX10_from_X10_refuse : GoodIn wsX10_from (wsV RX10 84 RX10 yX10_refuse wsX10_refuse) := goodIn_app (goodIn_of _ (by decide +kernel)) ggX10_from_X10_refuse
set_option maxRecDepth 20000 in
theorem ggX10_from_X10_copyAll : GoodIn wsX10_from wsX10_copyAll := goodIn_r _ [14, 15, 16, 17, 18, 19, 20, 21, 22, 23, 24, 25, 26, 27, 28, 29, 30, 31, 32, 33, 34, 35, 36, 37, 38, 39, 40, 41, 42, 43, 44, 45, 46, 47, 48] (by decide +kernel) (by decide +kernel)
set_option maxRecDepth 20000 in
theorem gX10_from_X10_copyAll : GoodIn wsX10_from (wsV RX10 227 RX10 yX10_copyAll wsX10_copyAll) := goodIn_app (goodIn_of _ (by decide +kernel)) ggX10_from_X10_copyAll
theorem dX10_from_0 : decode cX10_from 0 = .ok (.iload_n 1, 1) := by decide +kernel
theorem dX10_from_1 : decode cX10_from 1 = .ok (.iconst 0, 1) := by decide +kernel
theorem dX10_from_2 : decode cX10_from 2 = .ok (.iconst 1, 1) := by decide +kernel
theorem dX10_from_3 : decode cX10_from 3 = .ok (.invokestatic 95, 3) := by decide +kernel
theorem dX10_from_6 : decode cX10_from 6 = .ok (.ifCond .eq 12, 3) := by decide +kernel
theorem dX10_from_9 : decode cX10_from 9 = .ok (.aload_n 0, 1) := by decide +kernel
theorem dX10_from_10 : decode cX10_from 10 = .ok (.getfield 13, 3) := by decide +kernel
theorem dX10_from_13 : decode cX10_from 13 = .ok (.iload_n 1, 1) := by decide +kernel
theorem dX10_from_14 : decode cX10_from 14 = .ok (.baload, 1) := by decide +kernel
theorem dX10_from_15 : decode cX10_from 15 = .ok (.ifCond .ne 24, 3) := by decide +kernel
theorem dX10_from_18 : decode cX10_from 18 = .ok (.aload_n 0, 1) := by decide +kernel
theorem dX10_from_19 : decode cX10_from 19 = .ok (.iload_n 1, 1) := by decide +kernel
theorem dX10_from_20 : decode cX10_from 20 = .ok (.iconst 0, 1) := by decide +kernel
theorem dX10_from_21 : decode cX10_from 21 = .ok (.iconst 1, 1) := by decide +kernel
theorem dX10_from_22 : decode cX10_from 22 = .ok (.invokestatic 95, 3) := by decide +kernel
theorem dX10_from_25 : decode cX10_from 25 = .ok (.ifCond .eq 8, 3) := by decide +kernel
theorem dX10_from_28 : decode cX10_from 28 = .ok (.bipush (-3), 2) := by decide +kernel
theorem dX10_from_30 : decode cX10_from 30 = .ok (.goto 5, 3) := by decide +kernel
theorem dX10_from_33 : decode cX10_from 33 = .ok (.bipush (-2), 2) := by decide +kernel
theorem dX10_from_35 : decode cX10_from 35 = .ok (.invokevirtual 84, 3) := by decide +kernel
theorem dX10_from_38 : decode cX10_from 38 = .ok (.ireturn, 1) := by decide +kernel
theorem dX10_from_39 : decode cX10_from 39 = .ok (.aload_n 0, 1) := by decide +kernel
theorem dX10_from_40 : decode cX10_from 40 = .ok (.iconst 1, 1) := by decide +kernel
theorem dX10_from_41 : decode cX10_from 41 = .ok (.iload_n 1, 1) := by decide +kernel
theorem dX10_from_42 : decode cX10_from 42 = .ok (.iadd, 1) := by decide +kernel
theorem dX10_from_43 : decode cX10_from 43 = .ok (.iconst 0, 1) := by decide +kernel
theorem dX10_from_44 : decode cX10_from 44 = .ok (.invokevirtual 227, 3) := by decide +kernel
theorem dX10_from_47 : decode cX10_from 47 = .ok (.iconst 1, 1) := by decide +kernel
theorem dX10_from_48 : decode cX10_from 48 = .ok (.ireturn, 1) := by decide +kernel
set_option maxRecDepth 20000 in
theorem ggX10_status_X10_in : GoodIn wsX10_status wsX10_in := goodIn_r _ [5] (by decide +kernel) (by decide +kernel)
set_option maxRecDepth 20000 in
theorem gX10_status_X10_in : GoodIn wsX10_status (va_wsS RX10 95 yX10_in wsX10_in) := goodIn_app (goodIn_of _ (by decide +kernel)) ggX10_status_X10_in
set_option maxRecDepth 20000 in
theorem ggX10_status_X10_refuseAs : GoodIn wsX10_status wsX10_refuseAs := goodIn_r _ [9, 10, 11, 12, 4, 13, 1, 14, 15, 16, 17, 18, 19, 20, 21, 22, 23, 24, 25, 26, 27, 28, 29, 30, 31, 32, 33, 34, 35, 36, 37, 38, 39, 40, 41, 42, 43, 44, 45, 46] (by decide +kernel) (by decide +kernel)
set_option maxRecDepth 20000 in
theorem gX10_status_X10_refuseAs : GoodIn wsX10_status (wsV RX10 164 RX10 yX10_refuseAs wsX10_refuseAs) := goodIn_app (goodIn_of _ (by decide +kernel)) ggX10_status_X10_refuseAs
theorem dX10_status_0 : decode cX10_status 0 = .ok (.iload_n 1, 1) := by decide +kernel
theorem dX10_status_1 : decode cX10_status 1 = .ok (.iconst 0, 1) := by decide +kernel
theorem dX10_status_2 : decode cX10_status 2 = .ok (.iconst 2, 1) := by decide +kernel
theorem dX10_status_3 : decode cX10_status 3 = .ok (.invokestatic 95, 3) := by decide +kernel
theorem dX10_status_6 : decode cX10_status 6 = .ok (.ifCond .eq 12, 3) := by decide +kernel
theorem dX10_status_9 : decode cX10_status 9 = .ok (.aload_n 0, 1) := by decide +kernel
theorem dX10_status_10 : decode cX10_status 10 = .ok (.getfield 17, 3) := by decide +kernel
theorem dX10_status_13 : decode cX10_status 13 = .ok (.iload_n 1, 1) := by decide +kernel
theorem dX10_status_14 : decode cX10_status 14 = .ok (.iaload, 1) := by decide +kernel
theorem dX10_status_15 : decode cX10_status 15 = .ok (.goto 10, 3) := by decide +kernel
theorem dX10_status_18 : decode cX10_status 18 = .ok (.aload_n 0, 1) := by decide +kernel
theorem dX10_status_19 : decode cX10_status 19 = .ok (.bipush (-2), 2) := by decide +kernel
theorem dX10_status_21 : decode cX10_status 21 = .ok (.iconst (-1), 1) := by decide +kernel
theorem dX10_status_22 : decode cX10_status 22 = .ok (.invokevirtual 164, 3) := by decide +kernel
theorem dX10_status_25 : decode cX10_status 25 = .ok (.ireturn, 1) := by decide +kernel
theorem dX10_waysNow_0 : decode cX10_waysNow 0 = .ok (.iconst 0, 1) := by decide +kernel
theorem dX10_waysNow_1 : decode cX10_waysNow 1 = .ok (.istore_n 1, 1) := by decide +kernel
theorem dX10_waysNow_2 : decode cX10_waysNow 2 = .ok (.iconst 0, 1) := by decide +kernel
theorem dX10_waysNow_3 : decode cX10_waysNow 3 = .ok (.istore_n 2, 1) := by decide +kernel
theorem dX10_waysNow_4 : decode cX10_waysNow 4 = .ok (.iload_n 2, 1) := by decide +kernel
theorem dX10_waysNow_5 : decode cX10_waysNow 5 = .ok (.bipush 16, 2) := by decide +kernel
theorem dX10_waysNow_7 : decode cX10_waysNow 7 = .ok (.if_icmp .ge 21, 3) := by decide +kernel
theorem dX10_waysNow_10 : decode cX10_waysNow 10 = .ok (.iload_n 1, 1) := by decide +kernel
theorem dX10_waysNow_11 : decode cX10_waysNow 11 = .ok (.aload_n 0, 1) := by decide +kernel
theorem dX10_waysNow_12 : decode cX10_waysNow 12 = .ok (.getfield 7, 3) := by decide +kernel
theorem dX10_waysNow_15 : decode cX10_waysNow 15 = .ok (.bipush 7, 2) := by decide +kernel
theorem dX10_waysNow_17 : decode cX10_waysNow 17 = .ok (.iload_n 2, 1) := by decide +kernel
theorem dX10_waysNow_18 : decode cX10_waysNow 18 = .ok (.iadd, 1) := by decide +kernel
theorem dX10_waysNow_19 : decode cX10_waysNow 19 = .ok (.iaload, 1) := by decide +kernel
theorem dX10_waysNow_20 : decode cX10_waysNow 20 = .ok (.iadd, 1) := by decide +kernel
theorem dX10_waysNow_21 : decode cX10_waysNow 21 = .ok (.istore_n 1, 1) := by decide +kernel
theorem dX10_waysNow_22 : decode cX10_waysNow 22 = .ok (.iinc 2 1, 3) := by decide +kernel
theorem dX10_waysNow_25 : decode cX10_waysNow 25 = .ok (.goto (-21), 3) := by decide +kernel
theorem dX10_waysNow_28 : decode cX10_waysNow 28 = .ok (.iload_n 1, 1) := by decide +kernel
theorem dX10_waysNow_29 : decode cX10_waysNow 29 = .ok (.iconst 2, 1) := by decide +kernel
theorem dX10_waysNow_30 : decode cX10_waysNow 30 = .ok (.idiv, 1) := by decide +kernel
theorem dX10_waysNow_31 : decode cX10_waysNow 31 = .ok (.ireturn, 1) := by decide +kernel
set_option maxRecDepth 20000 in
theorem ggX10_countOf_X10_waysNow : GoodIn wsX10_countOf wsX10_waysNow := goodIn_r _ [6, 1, 7, 8, 9, 10, 11, 12, 13, 14, 15, 16, 17, 18, 19, 20, 21, 22, 23, 24, 25, 26, 27, 28, 29, 30, 31, 32, 33, 34, 35, 36, 37, 38, 39] (by decide +kernel) (by decide +kernel)
set_option maxRecDepth 20000 in
theorem gX10_countOf_X10_waysNow : GoodIn wsX10_countOf (wsV RX10 230 RX10 yX10_waysNow wsX10_waysNow) := goodIn_app (goodIn_of _ (by decide +kernel)) ggX10_countOf_X10_waysNow
theorem dX10_countOf_0 : decode cX10_countOf 0 = .ok (.iload_n 1, 1) := by decide +kernel
theorem dX10_countOf_1 : decode cX10_countOf 1 = .ok (.ifCond .ne 10, 3) := by decide +kernel
theorem dX10_countOf_4 : decode cX10_countOf 4 = .ok (.aload_n 0, 1) := by decide +kernel
theorem dX10_countOf_5 : decode cX10_countOf 5 = .ok (.invokevirtual 230, 3) := by decide +kernel
theorem dX10_countOf_8 : decode cX10_countOf 8 = .ok (.goto 9, 3) := by decide +kernel
theorem dX10_countOf_11 : decode cX10_countOf 11 = .ok (.aload_n 0, 1) := by decide +kernel
theorem dX10_countOf_12 : decode cX10_countOf 12 = .ok (.getfield 7, 3) := by decide +kernel
theorem dX10_countOf_15 : decode cX10_countOf 15 = .ok (.iload_n 1, 1) := by decide +kernel
theorem dX10_countOf_16 : decode cX10_countOf 16 = .ok (.iaload, 1) := by decide +kernel
theorem dX10_countOf_17 : decode cX10_countOf 17 = .ok (.ireturn, 1) := by decide +kernel
set_option maxRecDepth 20000 in
theorem ggX10_count_X10_in : GoodIn wsX10_count wsX10_in := goodIn_r _ [4] (by decide +kernel) (by decide +kernel)
set_option maxRecDepth 20000 in
theorem gX10_count_X10_in : GoodIn wsX10_count (va_wsS RX10 95 yX10_in wsX10_in) := goodIn_app (goodIn_of _ (by decide +kernel)) ggX10_count_X10_in
set_option maxRecDepth 20000 in
theorem ggX10_count_X10_countOf : GoodIn wsX10_count wsX10_countOf := goodIn_r _ [8, 9, 10, 11, 12, 3, 13, 19, 20, 21, 22, 23, 24, 25, 26, 27, 28, 29, 30, 31, 32, 33, 34, 35, 36, 37, 38, 39, 40, 41, 42, 43, 44, 45, 46, 47, 48, 49, 50, 51] (by decide +kernel) (by decide +kernel)
set_option maxRecDepth 20000 in
theorem gX10_count_X10_countOf : GoodIn wsX10_count (wsV RX10 233 RX10 yX10_countOf wsX10_countOf) := goodIn_app (goodIn_of _ (by decide +kernel)) ggX10_count_X10_countOf
set_option maxRecDepth 20000 in
theorem ggX10_count_X10_refuse : GoodIn wsX10_count wsX10_refuse := goodIn_r _ [17, 18, 19, 20, 21, 22, 23, 24, 25, 26, 27, 28, 29, 30, 31, 32, 33, 34, 35, 36, 37, 38, 39, 40, 41, 42, 43, 44, 45, 46, 47, 48, 49, 50, 51] (by decide +kernel) (by decide +kernel)
set_option maxRecDepth 20000 in
theorem gX10_count_X10_refuse : GoodIn wsX10_count (wsV RX10 84 RX10 yX10_refuse wsX10_refuse) := goodIn_app (goodIn_of _ (by decide +kernel)) ggX10_count_X10_refuse
theorem dX10_count_0 : decode cX10_count 0 = .ok (.iload_n 1, 1) := by decide +kernel
theorem dX10_count_1 : decode cX10_count 1 = .ok (.iconst 0, 1) := by decide +kernel
theorem dX10_count_2 : decode cX10_count 2 = .ok (.bipush 6, 2) := by decide +kernel
theorem dX10_count_4 : decode cX10_count 4 = .ok (.invokestatic 95, 3) := by decide +kernel
theorem dX10_count_7 : decode cX10_count 7 = .ok (.ifCond .eq 11, 3) := by decide +kernel
theorem dX10_count_10 : decode cX10_count 10 = .ok (.aload_n 0, 1) := by decide +kernel
theorem dX10_count_11 : decode cX10_count 11 = .ok (.iload_n 1, 1) := by decide +kernel
theorem dX10_count_12 : decode cX10_count 12 = .ok (.invokevirtual 233, 3) := by decide +kernel
theorem dX10_count_15 : decode cX10_count 15 = .ok (.goto 9, 3) := by decide +kernel
theorem dX10_count_18 : decode cX10_count 18 = .ok (.aload_n 0, 1) := by decide +kernel
theorem dX10_count_19 : decode cX10_count 19 = .ok (.bipush (-2), 2) := by decide +kernel
theorem dX10_count_21 : decode cX10_count 21 = .ok (.invokevirtual 84, 3) := by decide +kernel
theorem dX10_count_24 : decode cX10_count 24 = .ok (.ireturn, 1) := by decide +kernel
theorem dX10_mix_0 : decode cX10_mix 0 = .ok (.aload_n 0, 1) := by decide +kernel
theorem dX10_mix_1 : decode cX10_mix 1 = .ok (.ldc2_w 236, 3) := by decide +kernel
theorem dX10_mix_4 : decode cX10_mix 4 = .ok (.aload_n 0, 1) := by decide +kernel
theorem dX10_mix_5 : decode cX10_mix 5 = .ok (.getfield 238, 3) := by decide +kernel
theorem dX10_mix_8 : decode cX10_mix 8 = .ok (.lmul, 1) := by decide +kernel
theorem dX10_mix_9 : decode cX10_mix 9 = .ok (.iload_n 1, 1) := by decide +kernel
theorem dX10_mix_10 : decode cX10_mix 10 = .ok (.i2l, 1) := by decide +kernel
theorem dX10_mix_11 : decode cX10_mix 11 = .ok (.ladd, 1) := by decide +kernel
theorem dX10_mix_12 : decode cX10_mix 12 = .ok (.putfield 238, 3) := by decide +kernel
theorem dX10_mix_15 : decode cX10_mix 15 = .ok (.return_, 1) := by decide +kernel
set_option maxRecDepth 20000 in
theorem ggX10_digest_X10_countOf : GoodIn wsX10_digest wsX10_countOf := goodIn_r _ [10, 3, 11, 12, 13, 9, 14, 20, 21, 22, 23, 24, 25, 26, 27, 28, 29, 30, 31, 32, 33, 34, 35, 36, 37, 38, 39, 40, 41, 42, 43, 44, 45, 46, 47, 48, 49, 50, 51, 52] (by decide +kernel) (by decide +kernel)
set_option maxRecDepth 20000 in
theorem gX10_digest_X10_countOf : GoodIn wsX10_digest (wsV RX10 233 RX10 yX10_countOf wsX10_countOf) := goodIn_app (goodIn_of _ (by decide +kernel)) ggX10_digest_X10_countOf
set_option maxRecDepth 20000 in
theorem ggX10_digest_X10_mix : GoodIn wsX10_digest wsX10_mix := goodIn_r _ [18, 19, 2, 20, 21, 22, 23, 24, 25, 26, 27, 28, 29, 30, 31, 32, 33, 34, 35, 36, 37, 38, 39, 40, 41, 42, 43, 44, 45, 46, 47, 48, 49, 50, 51, 52] (by decide +kernel) (by decide +kernel)
set_option maxRecDepth 20000 in
theorem gX10_digest_X10_mix : GoodIn wsX10_digest (wsV RX10 244 RX10 yX10_mix wsX10_mix) := goodIn_app (goodIn_of _ (by decide +kernel)) ggX10_digest_X10_mix
theorem dX10_digest_0 : decode cX10_digest 0 = .ok (.aload_n 0, 1) := by decide +kernel
theorem dX10_digest_1 : decode cX10_digest 1 = .ok (.ldc2_w 242, 3) := by decide +kernel
theorem dX10_digest_4 : decode cX10_digest 4 = .ok (.putfield 238, 3) := by decide +kernel
theorem dX10_digest_7 : decode cX10_digest 7 = .ok (.iconst 0, 1) := by decide +kernel
theorem dX10_digest_8 : decode cX10_digest 8 = .ok (.istore_n 1, 1) := by decide +kernel
theorem dX10_digest_9 : decode cX10_digest 9 = .ok (.iload_n 1, 1) := by decide +kernel
theorem dX10_digest_10 : decode cX10_digest 10 = .ok (.bipush 7, 2) := by decide +kernel
theorem dX10_digest_12 : decode cX10_digest 12 = .ok (.if_icmp .ge 18, 3) := by decide +kernel
theorem dX10_digest_15 : decode cX10_digest 15 = .ok (.aload_n 0, 1) := by decide +kernel
theorem dX10_digest_16 : decode cX10_digest 16 = .ok (.aload_n 0, 1) := by decide +kernel
theorem dX10_digest_17 : decode cX10_digest 17 = .ok (.iload_n 1, 1) := by decide +kernel
theorem dX10_digest_18 : decode cX10_digest 18 = .ok (.invokevirtual 233, 3) := by decide +kernel
theorem dX10_digest_21 : decode cX10_digest 21 = .ok (.invokevirtual 244, 3) := by decide +kernel
theorem dX10_digest_24 : decode cX10_digest 24 = .ok (.iinc 1 1, 3) := by decide +kernel
theorem dX10_digest_27 : decode cX10_digest 27 = .ok (.goto (-18), 3) := by decide +kernel
theorem dX10_digest_30 : decode cX10_digest 30 = .ok (.aload_n 0, 1) := by decide +kernel
theorem dX10_digest_31 : decode cX10_digest 31 = .ok (.aload_n 0, 1) := by decide +kernel
theorem dX10_digest_32 : decode cX10_digest 32 = .ok (.getfield 7, 3) := by decide +kernel
theorem dX10_digest_35 : decode cX10_digest 35 = .ok (.iconst 0, 1) := by decide +kernel
theorem dX10_digest_36 : decode cX10_digest 36 = .ok (.iaload, 1) := by decide +kernel
theorem dX10_digest_37 : decode cX10_digest 37 = .ok (.invokevirtual 244, 3) := by decide +kernel
theorem dX10_digest_40 : decode cX10_digest 40 = .ok (.iconst 0, 1) := by decide +kernel
theorem dX10_digest_41 : decode cX10_digest 41 = .ok (.istore_n 1, 1) := by decide +kernel
theorem dX10_digest_42 : decode cX10_digest 42 = .ok (.iload_n 1, 1) := by decide +kernel
theorem dX10_digest_43 : decode cX10_digest 43 = .ok (.bipush 16, 2) := by decide +kernel
theorem dX10_digest_45 : decode cX10_digest 45 = .ok (.if_icmp .ge 31, 3) := by decide +kernel
theorem dX10_digest_48 : decode cX10_digest 48 = .ok (.iload_n 1, 1) := by decide +kernel
theorem dX10_digest_49 : decode cX10_digest 49 = .ok (.iconst 4, 1) := by decide +kernel
theorem dX10_digest_50 : decode cX10_digest 50 = .ok (.irem, 1) := by decide +kernel
theorem dX10_digest_51 : decode cX10_digest 51 = .ok (.iload_n 1, 1) := by decide +kernel
theorem dX10_digest_52 : decode cX10_digest 52 = .ok (.iconst 4, 1) := by decide +kernel
theorem dX10_digest_53 : decode cX10_digest 53 = .ok (.idiv, 1) := by decide +kernel
theorem dX10_digest_54 : decode cX10_digest 54 = .ok (.if_icmp .ge 16, 3) := by decide +kernel
theorem dX10_digest_57 : decode cX10_digest 57 = .ok (.aload_n 0, 1) := by decide +kernel
theorem dX10_digest_58 : decode cX10_digest 58 = .ok (.aload_n 0, 1) := by decide +kernel
theorem dX10_digest_59 : decode cX10_digest 59 = .ok (.getfield 7, 3) := by decide +kernel
theorem dX10_digest_62 : decode cX10_digest 62 = .ok (.bipush 7, 2) := by decide +kernel
theorem dX10_digest_64 : decode cX10_digest 64 = .ok (.iload_n 1, 1) := by decide +kernel
theorem dX10_digest_65 : decode cX10_digest 65 = .ok (.iadd, 1) := by decide +kernel
theorem dX10_digest_66 : decode cX10_digest 66 = .ok (.iaload, 1) := by decide +kernel
theorem dX10_digest_67 : decode cX10_digest 67 = .ok (.invokevirtual 244, 3) := by decide +kernel
theorem dX10_digest_70 : decode cX10_digest 70 = .ok (.iinc 1 1, 3) := by decide +kernel
theorem dX10_digest_73 : decode cX10_digest 73 = .ok (.goto (-31), 3) := by decide +kernel
theorem dX10_digest_76 : decode cX10_digest 76 = .ok (.iconst 0, 1) := by decide +kernel
theorem dX10_digest_77 : decode cX10_digest 77 = .ok (.istore_n 1, 1) := by decide +kernel
theorem dX10_digest_78 : decode cX10_digest 78 = .ok (.iload_n 1, 1) := by decide +kernel
theorem dX10_digest_79 : decode cX10_digest 79 = .ok (.aload_n 0, 1) := by decide +kernel
theorem dX10_digest_80 : decode cX10_digest 80 = .ok (.getfield 7, 3) := by decide +kernel
theorem dX10_digest_83 : decode cX10_digest 83 = .ok (.iconst 1, 1) := by decide +kernel
theorem dX10_digest_84 : decode cX10_digest 84 = .ok (.iaload, 1) := by decide +kernel
theorem dX10_digest_85 : decode cX10_digest 85 = .ok (.if_icmp .ge 35, 3) := by decide +kernel
theorem dX10_digest_88 : decode cX10_digest 88 = .ok (.aload_n 0, 1) := by decide +kernel
theorem dX10_digest_89 : decode cX10_digest 89 = .ok (.aload_n 0, 1) := by decide +kernel
theorem dX10_digest_90 : decode cX10_digest 90 = .ok (.getfield 7, 3) := by decide +kernel
theorem dX10_digest_93 : decode cX10_digest 93 = .ok (.bipush 23, 2) := by decide +kernel
theorem dX10_digest_95 : decode cX10_digest 95 = .ok (.iload_n 1, 1) := by decide +kernel
theorem dX10_digest_96 : decode cX10_digest 96 = .ok (.iadd, 1) := by decide +kernel
theorem dX10_digest_97 : decode cX10_digest 97 = .ok (.iaload, 1) := by decide +kernel
theorem dX10_digest_98 : decode cX10_digest 98 = .ok (.invokevirtual 244, 3) := by decide +kernel
theorem dX10_digest_101 : decode cX10_digest 101 = .ok (.aload_n 0, 1) := by decide +kernel
theorem dX10_digest_102 : decode cX10_digest 102 = .ok (.aload_n 0, 1) := by decide +kernel
theorem dX10_digest_103 : decode cX10_digest 103 = .ok (.getfield 7, 3) := by decide +kernel
theorem dX10_digest_106 : decode cX10_digest 106 = .ok (.bipush 28, 2) := by decide +kernel
theorem dX10_digest_108 : decode cX10_digest 108 = .ok (.iload_n 1, 1) := by decide +kernel
theorem dX10_digest_109 : decode cX10_digest 109 = .ok (.iadd, 1) := by decide +kernel
theorem dX10_digest_110 : decode cX10_digest 110 = .ok (.iaload, 1) := by decide +kernel
theorem dX10_digest_111 : decode cX10_digest 111 = .ok (.invokevirtual 244, 3) := by decide +kernel
theorem dX10_digest_114 : decode cX10_digest 114 = .ok (.iinc 1 1, 3) := by decide +kernel
theorem dX10_digest_117 : decode cX10_digest 117 = .ok (.goto (-39), 3) := by decide +kernel
theorem dX10_digest_120 : decode cX10_digest 120 = .ok (.iconst 0, 1) := by decide +kernel
theorem dX10_digest_121 : decode cX10_digest 121 = .ok (.istore_n 1, 1) := by decide +kernel
theorem dX10_digest_122 : decode cX10_digest 122 = .ok (.iload_n 1, 1) := by decide +kernel
theorem dX10_digest_123 : decode cX10_digest 123 = .ok (.aload_n 0, 1) := by decide +kernel
theorem dX10_digest_124 : decode cX10_digest 124 = .ok (.getfield 7, 3) := by decide +kernel
theorem dX10_digest_127 : decode cX10_digest 127 = .ok (.iconst 2, 1) := by decide +kernel
theorem dX10_digest_128 : decode cX10_digest 128 = .ok (.iaload, 1) := by decide +kernel
theorem dX10_digest_129 : decode cX10_digest 129 = .ok (.if_icmp .ge 61, 3) := by decide +kernel
theorem dX10_digest_132 : decode cX10_digest 132 = .ok (.aload_n 0, 1) := by decide +kernel
theorem dX10_digest_133 : decode cX10_digest 133 = .ok (.aload_n 0, 1) := by decide +kernel
theorem dX10_digest_134 : decode cX10_digest 134 = .ok (.getfield 7, 3) := by decide +kernel
theorem dX10_digest_137 : decode cX10_digest 137 = .ok (.bipush 33, 2) := by decide +kernel
theorem dX10_digest_139 : decode cX10_digest 139 = .ok (.iload_n 1, 1) := by decide +kernel
theorem dX10_digest_140 : decode cX10_digest 140 = .ok (.iadd, 1) := by decide +kernel
theorem dX10_digest_141 : decode cX10_digest 141 = .ok (.iaload, 1) := by decide +kernel
theorem dX10_digest_142 : decode cX10_digest 142 = .ok (.invokevirtual 244, 3) := by decide +kernel
theorem dX10_digest_145 : decode cX10_digest 145 = .ok (.aload_n 0, 1) := by decide +kernel
theorem dX10_digest_146 : decode cX10_digest 146 = .ok (.aload_n 0, 1) := by decide +kernel
theorem dX10_digest_147 : decode cX10_digest 147 = .ok (.getfield 7, 3) := by decide +kernel
theorem dX10_digest_150 : decode cX10_digest 150 = .ok (.bipush 57, 2) := by decide +kernel
theorem dX10_digest_152 : decode cX10_digest 152 = .ok (.iload_n 1, 1) := by decide +kernel
theorem dX10_digest_153 : decode cX10_digest 153 = .ok (.iadd, 1) := by decide +kernel
theorem dX10_digest_154 : decode cX10_digest 154 = .ok (.iaload, 1) := by decide +kernel
theorem dX10_digest_155 : decode cX10_digest 155 = .ok (.invokevirtual 244, 3) := by decide +kernel
theorem dX10_digest_158 : decode cX10_digest 158 = .ok (.aload_n 0, 1) := by decide +kernel
theorem dX10_digest_159 : decode cX10_digest 159 = .ok (.aload_n 0, 1) := by decide +kernel
theorem dX10_digest_160 : decode cX10_digest 160 = .ok (.getfield 7, 3) := by decide +kernel
theorem dX10_digest_163 : decode cX10_digest 163 = .ok (.bipush 81, 2) := by decide +kernel
theorem dX10_digest_165 : decode cX10_digest 165 = .ok (.iload_n 1, 1) := by decide +kernel
theorem dX10_digest_166 : decode cX10_digest 166 = .ok (.iadd, 1) := by decide +kernel
theorem dX10_digest_167 : decode cX10_digest 167 = .ok (.iaload, 1) := by decide +kernel
theorem dX10_digest_168 : decode cX10_digest 168 = .ok (.invokevirtual 244, 3) := by decide +kernel
theorem dX10_digest_171 : decode cX10_digest 171 = .ok (.aload_n 0, 1) := by decide +kernel
theorem dX10_digest_172 : decode cX10_digest 172 = .ok (.aload_n 0, 1) := by decide +kernel
theorem dX10_digest_173 : decode cX10_digest 173 = .ok (.getfield 7, 3) := by decide +kernel
theorem dX10_digest_176 : decode cX10_digest 176 = .ok (.bipush 105, 2) := by decide +kernel
theorem dX10_digest_178 : decode cX10_digest 178 = .ok (.iload_n 1, 1) := by decide +kernel
theorem dX10_digest_179 : decode cX10_digest 179 = .ok (.iadd, 1) := by decide +kernel
theorem dX10_digest_180 : decode cX10_digest 180 = .ok (.iaload, 1) := by decide +kernel
theorem dX10_digest_181 : decode cX10_digest 181 = .ok (.invokevirtual 244, 3) := by decide +kernel
theorem dX10_digest_184 : decode cX10_digest 184 = .ok (.iinc 1 1, 3) := by decide +kernel
theorem dX10_digest_187 : decode cX10_digest 187 = .ok (.goto (-65), 3) := by decide +kernel
theorem dX10_digest_190 : decode cX10_digest 190 = .ok (.iconst 0, 1) := by decide +kernel
theorem dX10_digest_191 : decode cX10_digest 191 = .ok (.istore_n 1, 1) := by decide +kernel
theorem dX10_digest_192 : decode cX10_digest 192 = .ok (.iload_n 1, 1) := by decide +kernel
theorem dX10_digest_193 : decode cX10_digest 193 = .ok (.aload_n 0, 1) := by decide +kernel
theorem dX10_digest_194 : decode cX10_digest 194 = .ok (.getfield 7, 3) := by decide +kernel
theorem dX10_digest_197 : decode cX10_digest 197 = .ok (.iconst 3, 1) := by decide +kernel
theorem dX10_digest_198 : decode cX10_digest 198 = .ok (.iaload, 1) := by decide +kernel
theorem dX10_digest_199 : decode cX10_digest 199 = .ok (.if_icmp .ge 23, 3) := by decide +kernel
theorem dX10_digest_202 : decode cX10_digest 202 = .ok (.aload_n 0, 1) := by decide +kernel
theorem dX10_digest_203 : decode cX10_digest 203 = .ok (.aload_n 0, 1) := by decide +kernel
theorem dX10_digest_204 : decode cX10_digest 204 = .ok (.getfield 7, 3) := by decide +kernel
theorem dX10_digest_207 : decode cX10_digest 207 = .ok (.sipush 129, 3) := by decide +kernel
theorem dX10_digest_210 : decode cX10_digest 210 = .ok (.iload_n 1, 1) := by decide +kernel
theorem dX10_digest_211 : decode cX10_digest 211 = .ok (.iadd, 1) := by decide +kernel
theorem dX10_digest_212 : decode cX10_digest 212 = .ok (.iaload, 1) := by decide +kernel
theorem dX10_digest_213 : decode cX10_digest 213 = .ok (.invokevirtual 244, 3) := by decide +kernel
theorem dX10_digest_216 : decode cX10_digest 216 = .ok (.iinc 1 1, 3) := by decide +kernel
theorem dX10_digest_219 : decode cX10_digest 219 = .ok (.goto (-27), 3) := by decide +kernel
theorem dX10_digest_222 : decode cX10_digest 222 = .ok (.iconst 0, 1) := by decide +kernel
theorem dX10_digest_223 : decode cX10_digest 223 = .ok (.istore_n 1, 1) := by decide +kernel
theorem dX10_digest_224 : decode cX10_digest 224 = .ok (.iload_n 1, 1) := by decide +kernel
theorem dX10_digest_225 : decode cX10_digest 225 = .ok (.aload_n 0, 1) := by decide +kernel
theorem dX10_digest_226 : decode cX10_digest 226 = .ok (.getfield 7, 3) := by decide +kernel
theorem dX10_digest_229 : decode cX10_digest 229 = .ok (.iconst 4, 1) := by decide +kernel
theorem dX10_digest_230 : decode cX10_digest 230 = .ok (.iaload, 1) := by decide +kernel
theorem dX10_digest_231 : decode cX10_digest 231 = .ok (.if_icmp .ge 23, 3) := by decide +kernel
theorem dX10_digest_234 : decode cX10_digest 234 = .ok (.aload_n 0, 1) := by decide +kernel
theorem dX10_digest_235 : decode cX10_digest 235 = .ok (.aload_n 0, 1) := by decide +kernel
theorem dX10_digest_236 : decode cX10_digest 236 = .ok (.getfield 7, 3) := by decide +kernel
theorem dX10_digest_239 : decode cX10_digest 239 = .ok (.sipush 329, 3) := by decide +kernel
theorem dX10_digest_242 : decode cX10_digest 242 = .ok (.iload_n 1, 1) := by decide +kernel
theorem dX10_digest_243 : decode cX10_digest 243 = .ok (.iadd, 1) := by decide +kernel
theorem dX10_digest_244 : decode cX10_digest 244 = .ok (.iaload, 1) := by decide +kernel
theorem dX10_digest_245 : decode cX10_digest 245 = .ok (.invokevirtual 244, 3) := by decide +kernel
theorem dX10_digest_248 : decode cX10_digest 248 = .ok (.iinc 1 1, 3) := by decide +kernel
theorem dX10_digest_251 : decode cX10_digest 251 = .ok (.goto (-27), 3) := by decide +kernel
theorem dX10_digest_254 : decode cX10_digest 254 = .ok (.iconst 0, 1) := by decide +kernel
theorem dX10_digest_255 : decode cX10_digest 255 = .ok (.istore_n 1, 1) := by decide +kernel
theorem dX10_digest_256 : decode cX10_digest 256 = .ok (.iload_n 1, 1) := by decide +kernel
theorem dX10_digest_257 : decode cX10_digest 257 = .ok (.aload_n 0, 1) := by decide +kernel
theorem dX10_digest_258 : decode cX10_digest 258 = .ok (.getfield 7, 3) := by decide +kernel
theorem dX10_digest_261 : decode cX10_digest 261 = .ok (.iconst 5, 1) := by decide +kernel
theorem dX10_digest_262 : decode cX10_digest 262 = .ok (.iaload, 1) := by decide +kernel
theorem dX10_digest_263 : decode cX10_digest 263 = .ok (.if_icmp .ge 37, 3) := by decide +kernel
theorem dX10_digest_266 : decode cX10_digest 266 = .ok (.aload_n 0, 1) := by decide +kernel
theorem dX10_digest_267 : decode cX10_digest 267 = .ok (.aload_n 0, 1) := by decide +kernel
theorem dX10_digest_268 : decode cX10_digest 268 = .ok (.getfield 7, 3) := by decide +kernel
theorem dX10_digest_271 : decode cX10_digest 271 = .ok (.sipush 337, 3) := by decide +kernel
theorem dX10_digest_274 : decode cX10_digest 274 = .ok (.iload_n 1, 1) := by decide +kernel
theorem dX10_digest_275 : decode cX10_digest 275 = .ok (.iadd, 1) := by decide +kernel
theorem dX10_digest_276 : decode cX10_digest 276 = .ok (.iaload, 1) := by decide +kernel
theorem dX10_digest_277 : decode cX10_digest 277 = .ok (.invokevirtual 244, 3) := by decide +kernel
theorem dX10_digest_280 : decode cX10_digest 280 = .ok (.aload_n 0, 1) := by decide +kernel
theorem dX10_digest_281 : decode cX10_digest 281 = .ok (.aload_n 0, 1) := by decide +kernel
theorem dX10_digest_282 : decode cX10_digest 282 = .ok (.getfield 7, 3) := by decide +kernel
theorem dX10_digest_285 : decode cX10_digest 285 = .ok (.sipush 341, 3) := by decide +kernel
theorem dX10_digest_288 : decode cX10_digest 288 = .ok (.iload_n 1, 1) := by decide +kernel
theorem dX10_digest_289 : decode cX10_digest 289 = .ok (.iadd, 1) := by decide +kernel
theorem dX10_digest_290 : decode cX10_digest 290 = .ok (.iaload, 1) := by decide +kernel
theorem dX10_digest_291 : decode cX10_digest 291 = .ok (.invokevirtual 244, 3) := by decide +kernel
theorem dX10_digest_294 : decode cX10_digest 294 = .ok (.iinc 1 1, 3) := by decide +kernel
theorem dX10_digest_297 : decode cX10_digest 297 = .ok (.goto (-41), 3) := by decide +kernel
theorem dX10_digest_300 : decode cX10_digest 300 = .ok (.iconst 0, 1) := by decide +kernel
theorem dX10_digest_301 : decode cX10_digest 301 = .ok (.istore_n 1, 1) := by decide +kernel
theorem dX10_digest_302 : decode cX10_digest 302 = .ok (.iload_n 1, 1) := by decide +kernel
theorem dX10_digest_303 : decode cX10_digest 303 = .ok (.iconst 4, 1) := by decide +kernel
theorem dX10_digest_304 : decode cX10_digest 304 = .ok (.if_icmp .ge 23, 3) := by decide +kernel
theorem dX10_digest_307 : decode cX10_digest 307 = .ok (.aload_n 0, 1) := by decide +kernel
theorem dX10_digest_308 : decode cX10_digest 308 = .ok (.aload_n 0, 1) := by decide +kernel
theorem dX10_digest_309 : decode cX10_digest 309 = .ok (.getfield 7, 3) := by decide +kernel
theorem dX10_digest_312 : decode cX10_digest 312 = .ok (.sipush 345, 3) := by decide +kernel
theorem dX10_digest_315 : decode cX10_digest 315 = .ok (.iload_n 1, 1) := by decide +kernel
theorem dX10_digest_316 : decode cX10_digest 316 = .ok (.iadd, 1) := by decide +kernel
theorem dX10_digest_317 : decode cX10_digest 317 = .ok (.iaload, 1) := by decide +kernel
theorem dX10_digest_318 : decode cX10_digest 318 = .ok (.invokevirtual 244, 3) := by decide +kernel
theorem dX10_digest_321 : decode cX10_digest 321 = .ok (.iinc 1 1, 3) := by decide +kernel
theorem dX10_digest_324 : decode cX10_digest 324 = .ok (.goto (-22), 3) := by decide +kernel
theorem dX10_digest_327 : decode cX10_digest 327 = .ok (.iconst 0, 1) := by decide +kernel
theorem dX10_digest_328 : decode cX10_digest 328 = .ok (.istore_n 1, 1) := by decide +kernel
theorem dX10_digest_329 : decode cX10_digest 329 = .ok (.iload_n 1, 1) := by decide +kernel
theorem dX10_digest_330 : decode cX10_digest 330 = .ok (.aload_n 0, 1) := by decide +kernel
theorem dX10_digest_331 : decode cX10_digest 331 = .ok (.getfield 7, 3) := by decide +kernel
theorem dX10_digest_334 : decode cX10_digest 334 = .ok (.bipush 6, 2) := by decide +kernel
theorem dX10_digest_336 : decode cX10_digest 336 = .ok (.iaload, 1) := by decide +kernel
theorem dX10_digest_337 : decode cX10_digest 337 = .ok (.if_icmp .ge 23, 3) := by decide +kernel
theorem dX10_digest_340 : decode cX10_digest 340 = .ok (.aload_n 0, 1) := by decide +kernel
theorem dX10_digest_341 : decode cX10_digest 341 = .ok (.aload_n 0, 1) := by decide +kernel
theorem dX10_digest_342 : decode cX10_digest 342 = .ok (.getfield 7, 3) := by decide +kernel
theorem dX10_digest_345 : decode cX10_digest 345 = .ok (.sipush 349, 3) := by decide +kernel
theorem dX10_digest_348 : decode cX10_digest 348 = .ok (.iload_n 1, 1) := by decide +kernel
theorem dX10_digest_349 : decode cX10_digest 349 = .ok (.iadd, 1) := by decide +kernel
theorem dX10_digest_350 : decode cX10_digest 350 = .ok (.iaload, 1) := by decide +kernel
theorem dX10_digest_351 : decode cX10_digest 351 = .ok (.invokevirtual 244, 3) := by decide +kernel
theorem dX10_digest_354 : decode cX10_digest 354 = .ok (.iinc 1 1, 3) := by decide +kernel
theorem dX10_digest_357 : decode cX10_digest 357 = .ok (.goto (-28), 3) := by decide +kernel
theorem dX10_digest_360 : decode cX10_digest 360 = .ok (.aload_n 0, 1) := by decide +kernel
theorem dX10_digest_361 : decode cX10_digest 361 = .ok (.aload_n 0, 1) := by decide +kernel
theorem dX10_digest_362 : decode cX10_digest 362 = .ok (.getfield 7, 3) := by decide +kernel
theorem dX10_digest_365 : decode cX10_digest 365 = .ok (.sipush 357, 3) := by decide +kernel
theorem dX10_digest_368 : decode cX10_digest 368 = .ok (.iaload, 1) := by decide +kernel
theorem dX10_digest_369 : decode cX10_digest 369 = .ok (.invokevirtual 244, 3) := by decide +kernel
theorem dX10_digest_372 : decode cX10_digest 372 = .ok (.aload_n 0, 1) := by decide +kernel
theorem dX10_digest_373 : decode cX10_digest 373 = .ok (.aload_n 0, 1) := by decide +kernel
theorem dX10_digest_374 : decode cX10_digest 374 = .ok (.getfield 7, 3) := by decide +kernel
theorem dX10_digest_377 : decode cX10_digest 377 = .ok (.sipush 358, 3) := by decide +kernel
theorem dX10_digest_380 : decode cX10_digest 380 = .ok (.iaload, 1) := by decide +kernel
theorem dX10_digest_381 : decode cX10_digest 381 = .ok (.invokevirtual 244, 3) := by decide +kernel
theorem dX10_digest_384 : decode cX10_digest 384 = .ok (.aload_n 0, 1) := by decide +kernel
theorem dX10_digest_385 : decode cX10_digest 385 = .ok (.aload_n 0, 1) := by decide +kernel
theorem dX10_digest_386 : decode cX10_digest 386 = .ok (.getfield 192, 3) := by decide +kernel
theorem dX10_digest_389 : decode cX10_digest 389 = .ok (.invokevirtual 244, 3) := by decide +kernel
theorem dX10_digest_392 : decode cX10_digest 392 = .ok (.aload_n 0, 1) := by decide +kernel
theorem dX10_digest_393 : decode cX10_digest 393 = .ok (.aload_n 0, 1) := by decide +kernel
theorem dX10_digest_394 : decode cX10_digest 394 = .ok (.getfield 20, 3) := by decide +kernel
theorem dX10_digest_397 : decode cX10_digest 397 = .ok (.invokevirtual 244, 3) := by decide +kernel
theorem dX10_digest_400 : decode cX10_digest 400 = .ok (.aload_n 0, 1) := by decide +kernel
theorem dX10_digest_401 : decode cX10_digest 401 = .ok (.getfield 238, 3) := by decide +kernel
theorem dX10_digest_404 : decode cX10_digest 404 = .ok (.lreturn, 1) := by decide +kernel
theorem dJ6_bitCount_0f7a4_0 : decode cJ6_bitCount_0f7a4 0 = .ok (.iload_n 0, 1) := by decide +kernel
theorem dJ6_bitCount_0f7a4_1 : decode cJ6_bitCount_0f7a4 1 = .ok (.iload_n 0, 1) := by decide +kernel
theorem dJ6_bitCount_0f7a4_2 : decode cJ6_bitCount_0f7a4 2 = .ok (.iconst 1, 1) := by decide +kernel
theorem dJ6_bitCount_0f7a4_3 : decode cJ6_bitCount_0f7a4 3 = .ok (.iushr, 1) := by decide +kernel
theorem dJ6_bitCount_0f7a4_4 : decode cJ6_bitCount_0f7a4 4 = .ok (.ldc_w 265, 3) := by decide +kernel
theorem dJ6_bitCount_0f7a4_7 : decode cJ6_bitCount_0f7a4 7 = .ok (.iand, 1) := by decide +kernel
theorem dJ6_bitCount_0f7a4_8 : decode cJ6_bitCount_0f7a4 8 = .ok (.isub, 1) := by decide +kernel
theorem dJ6_bitCount_0f7a4_9 : decode cJ6_bitCount_0f7a4 9 = .ok (.istore_n 0, 1) := by decide +kernel
theorem dJ6_bitCount_0f7a4_10 : decode cJ6_bitCount_0f7a4 10 = .ok (.iload_n 0, 1) := by decide +kernel
theorem dJ6_bitCount_0f7a4_11 : decode cJ6_bitCount_0f7a4 11 = .ok (.ldc_w 266, 3) := by decide +kernel
theorem dJ6_bitCount_0f7a4_14 : decode cJ6_bitCount_0f7a4 14 = .ok (.iand, 1) := by decide +kernel
theorem dJ6_bitCount_0f7a4_15 : decode cJ6_bitCount_0f7a4 15 = .ok (.iload_n 0, 1) := by decide +kernel
theorem dJ6_bitCount_0f7a4_16 : decode cJ6_bitCount_0f7a4 16 = .ok (.iconst 2, 1) := by decide +kernel
theorem dJ6_bitCount_0f7a4_17 : decode cJ6_bitCount_0f7a4 17 = .ok (.iushr, 1) := by decide +kernel
theorem dJ6_bitCount_0f7a4_18 : decode cJ6_bitCount_0f7a4 18 = .ok (.ldc_w 266, 3) := by decide +kernel
theorem dJ6_bitCount_0f7a4_21 : decode cJ6_bitCount_0f7a4 21 = .ok (.iand, 1) := by decide +kernel
theorem dJ6_bitCount_0f7a4_22 : decode cJ6_bitCount_0f7a4 22 = .ok (.iadd, 1) := by decide +kernel
theorem dJ6_bitCount_0f7a4_23 : decode cJ6_bitCount_0f7a4 23 = .ok (.istore_n 0, 1) := by decide +kernel
theorem dJ6_bitCount_0f7a4_24 : decode cJ6_bitCount_0f7a4 24 = .ok (.iload_n 0, 1) := by decide +kernel
theorem dJ6_bitCount_0f7a4_25 : decode cJ6_bitCount_0f7a4 25 = .ok (.iload_n 0, 1) := by decide +kernel
theorem dJ6_bitCount_0f7a4_26 : decode cJ6_bitCount_0f7a4 26 = .ok (.iconst 4, 1) := by decide +kernel
theorem dJ6_bitCount_0f7a4_27 : decode cJ6_bitCount_0f7a4 27 = .ok (.iushr, 1) := by decide +kernel
theorem dJ6_bitCount_0f7a4_28 : decode cJ6_bitCount_0f7a4 28 = .ok (.iadd, 1) := by decide +kernel
theorem dJ6_bitCount_0f7a4_29 : decode cJ6_bitCount_0f7a4 29 = .ok (.ldc_w 267, 3) := by decide +kernel
theorem dJ6_bitCount_0f7a4_32 : decode cJ6_bitCount_0f7a4 32 = .ok (.iand, 1) := by decide +kernel
theorem dJ6_bitCount_0f7a4_33 : decode cJ6_bitCount_0f7a4 33 = .ok (.istore_n 0, 1) := by decide +kernel
theorem dJ6_bitCount_0f7a4_34 : decode cJ6_bitCount_0f7a4 34 = .ok (.iload_n 0, 1) := by decide +kernel
theorem dJ6_bitCount_0f7a4_35 : decode cJ6_bitCount_0f7a4 35 = .ok (.iload_n 0, 1) := by decide +kernel
theorem dJ6_bitCount_0f7a4_36 : decode cJ6_bitCount_0f7a4 36 = .ok (.bipush 8, 2) := by decide +kernel
theorem dJ6_bitCount_0f7a4_38 : decode cJ6_bitCount_0f7a4 38 = .ok (.iushr, 1) := by decide +kernel
theorem dJ6_bitCount_0f7a4_39 : decode cJ6_bitCount_0f7a4 39 = .ok (.iadd, 1) := by decide +kernel
theorem dJ6_bitCount_0f7a4_40 : decode cJ6_bitCount_0f7a4 40 = .ok (.istore_n 0, 1) := by decide +kernel
theorem dJ6_bitCount_0f7a4_41 : decode cJ6_bitCount_0f7a4 41 = .ok (.iload_n 0, 1) := by decide +kernel
theorem dJ6_bitCount_0f7a4_42 : decode cJ6_bitCount_0f7a4 42 = .ok (.iload_n 0, 1) := by decide +kernel
theorem dJ6_bitCount_0f7a4_43 : decode cJ6_bitCount_0f7a4 43 = .ok (.bipush 16, 2) := by decide +kernel
theorem dJ6_bitCount_0f7a4_45 : decode cJ6_bitCount_0f7a4 45 = .ok (.iushr, 1) := by decide +kernel
theorem dJ6_bitCount_0f7a4_46 : decode cJ6_bitCount_0f7a4 46 = .ok (.iadd, 1) := by decide +kernel
theorem dJ6_bitCount_0f7a4_47 : decode cJ6_bitCount_0f7a4 47 = .ok (.istore_n 0, 1) := by decide +kernel
theorem dJ6_bitCount_0f7a4_48 : decode cJ6_bitCount_0f7a4 48 = .ok (.iload_n 0, 1) := by decide +kernel
theorem dJ6_bitCount_0f7a4_49 : decode cJ6_bitCount_0f7a4 49 = .ok (.bipush 63, 2) := by decide +kernel
theorem dJ6_bitCount_0f7a4_51 : decode cJ6_bitCount_0f7a4 51 = .ok (.iand, 1) := by decide +kernel
theorem dJ6_bitCount_0f7a4_52 : decode cJ6_bitCount_0f7a4 52 = .ok (.ireturn, 1) := by decide +kernel
theorem dJ9_max_7cf53_0 : decode cJ9_max_7cf53 0 = .ok (.iload_n 0, 1) := by decide +kernel
theorem dJ9_max_7cf53_1 : decode cJ9_max_7cf53 1 = .ok (.iload_n 1, 1) := by decide +kernel
theorem dJ9_max_7cf53_2 : decode cJ9_max_7cf53 2 = .ok (.if_icmp .lt 7, 3) := by decide +kernel
theorem dJ9_max_7cf53_5 : decode cJ9_max_7cf53 5 = .ok (.iload_n 0, 1) := by decide +kernel
theorem dJ9_max_7cf53_6 : decode cJ9_max_7cf53 6 = .ok (.goto 4, 3) := by decide +kernel
theorem dJ9_max_7cf53_9 : decode cJ9_max_7cf53 9 = .ok (.iload_n 1, 1) := by decide +kernel
theorem dJ9_max_7cf53_10 : decode cJ9_max_7cf53 10 = .ok (.ireturn, 1) := by decide +kernel
theorem dJ9_min_7cf53_0 : decode cJ9_min_7cf53 0 = .ok (.iload_n 0, 1) := by decide +kernel
theorem dJ9_min_7cf53_1 : decode cJ9_min_7cf53 1 = .ok (.iload_n 1, 1) := by decide +kernel
theorem dJ9_min_7cf53_2 : decode cJ9_min_7cf53 2 = .ok (.if_icmp .gt 7, 3) := by decide +kernel
theorem dJ9_min_7cf53_5 : decode cJ9_min_7cf53 5 = .ok (.iload_n 0, 1) := by decide +kernel
theorem dJ9_min_7cf53_6 : decode cJ9_min_7cf53 6 = .ok (.goto 4, 3) := by decide +kernel
theorem dJ9_min_7cf53_9 : decode cJ9_min_7cf53 9 = .ok (.iload_n 1, 1) := by decide +kernel
theorem dJ9_min_7cf53_10 : decode cJ9_min_7cf53 10 = .ok (.ireturn, 1) := by decide +kernel
set_option maxRecDepth 20000 in
theorem ggJ0_length_8abf5_J0_coder_7d493 : GoodIn wsJ0_length_8abf5 wsJ0_coder_7d493 := goodIn_r _ [6, 7, 8] (by decide +kernel) (by decide +kernel)
set_option maxRecDepth 20000 in
theorem gJ0_length_8abf5_J0_coder_7d493 : GoodIn wsJ0_length_8abf5 (wsV RJ0 335 RJ0 yJ0_coder_7d493 wsJ0_coder_7d493) := goodIn_app (goodIn_of _ (by decide +kernel)) ggJ0_length_8abf5_J0_coder_7d493
theorem dJ0_length_8abf5_0 : decode cJ0_length_8abf5 0 = .ok (.aload_n 0, 1) := by decide +kernel
theorem dJ0_length_8abf5_1 : decode cJ0_length_8abf5 1 = .ok (.getfield 9, 3) := by decide +kernel
theorem dJ0_length_8abf5_4 : decode cJ0_length_8abf5 4 = .ok (.arraylength, 1) := by decide +kernel
theorem dJ0_length_8abf5_5 : decode cJ0_length_8abf5 5 = .ok (.aload_n 0, 1) := by decide +kernel
theorem dJ0_length_8abf5_6 : decode cJ0_length_8abf5 6 = .ok (.invokevirtual 335, 3) := by decide +kernel
theorem dJ0_length_8abf5_9 : decode cJ0_length_8abf5 9 = .ok (.ishr, 1) := by decide +kernel
theorem dJ0_length_8abf5_10 : decode cJ0_length_8abf5 10 = .ok (.ireturn, 1) := by decide +kernel
set_option maxRecDepth 20000 in
theorem ggJ0_charAt_5068e_J0_isLatin1_aae02 : GoodIn wsJ0_charAt_5068e wsJ0_isLatin1_aae02 := goodIn_r _ [6, 7, 8] (by decide +kernel) (by decide +kernel)
set_option maxRecDepth 20000 in
theorem gJ0_charAt_5068e_J0_isLatin1_aae02 : GoodIn wsJ0_charAt_5068e (wsV RJ0 492 RJ0 yJ0_isLatin1_aae02 wsJ0_isLatin1_aae02) := goodIn_app (goodIn_of _ (by decide +kernel)) ggJ0_charAt_5068e_J0_isLatin1_aae02
set_option maxRecDepth 20000 in
theorem ggJ0_charAt_5068e_J1_charAt_3b067 : GoodIn wsJ0_charAt_5068e wsJ1_charAt_3b067 := goodIn_r _ [12, 13, 14, 5, 15, 16, 17, 18, 19, 20] (by decide +kernel) (by decide +kernel)
set_option maxRecDepth 20000 in
theorem gJ0_charAt_5068e_J1_charAt_3b067 : GoodIn wsJ0_charAt_5068e (va_wsS RJ0 495 yJ1_charAt_3b067 wsJ1_charAt_3b067) := goodIn_app (goodIn_of _ (by decide +kernel)) ggJ0_charAt_5068e_J1_charAt_3b067
set_option maxRecDepth 20000 in
theorem ggJ0_charAt_5068e_J2_charAt_3b067 : GoodIn wsJ0_charAt_5068e wsJ2_charAt_3b067 := goodIn_r _ [24, 25, 26, 23, 27, 28, 29, 30, 31, 14, 5, 15, 16, 17, 18, 19, 20, 32, 33, 34, 35, 36, 37] (by decide +kernel) (by decide +kernel)
set_option maxRecDepth 20000 in
theorem gJ0_charAt_5068e_J2_charAt_3b067 : GoodIn wsJ0_charAt_5068e (va_wsS RJ0 498 yJ2_charAt_3b067 wsJ2_charAt_3b067) := goodIn_app (goodIn_of _ (by decide +kernel)) ggJ0_charAt_5068e_J2_charAt_3b067
theorem dJ0_charAt_5068e_0 : decode cJ0_charAt_5068e 0 = .ok (.aload_n 0, 1) := by decide +kernel
theorem dJ0_charAt_5068e_1 : decode cJ0_charAt_5068e 1 = .ok (.invokevirtual 492, 3) := by decide +kernel
theorem dJ0_charAt_5068e_4 : decode cJ0_charAt_5068e 4 = .ok (.ifCond .eq 12, 3) := by decide +kernel
theorem dJ0_charAt_5068e_7 : decode cJ0_charAt_5068e 7 = .ok (.aload_n 0, 1) := by decide +kernel
theorem dJ0_charAt_5068e_8 : decode cJ0_charAt_5068e 8 = .ok (.getfield 9, 3) := by decide +kernel
theorem dJ0_charAt_5068e_11 : decode cJ0_charAt_5068e 11 = .ok (.iload_n 1, 1) := by decide +kernel
theorem dJ0_charAt_5068e_12 : decode cJ0_charAt_5068e 12 = .ok (.invokestatic 495, 3) := by decide +kernel
theorem dJ0_charAt_5068e_15 : decode cJ0_charAt_5068e 15 = .ok (.ireturn, 1) := by decide +kernel
theorem dJ0_charAt_5068e_16 : decode cJ0_charAt_5068e 16 = .ok (.aload_n 0, 1) := by decide +kernel
theorem dJ0_charAt_5068e_17 : decode cJ0_charAt_5068e 17 = .ok (.getfield 9, 3) := by decide +kernel
theorem dJ0_charAt_5068e_20 : decode cJ0_charAt_5068e 20 = .ok (.iload_n 1, 1) := by decide +kernel
theorem dJ0_charAt_5068e_21 : decode cJ0_charAt_5068e 21 = .ok (.invokestatic 498, 3) := by decide +kernel
theorem dJ0_charAt_5068e_24 : decode cJ0_charAt_5068e 24 = .ok (.ireturn, 1) := by decide +kernel
theorem dJ0_coder_7d493_0 : decode cJ0_coder_7d493 0 = .ok (.getstatic 38, 3) := by decide +kernel
theorem dJ0_coder_7d493_3 : decode cJ0_coder_7d493 3 = .ok (.ifCond .eq 10, 3) := by decide +kernel
theorem dJ0_coder_7d493_6 : decode cJ0_coder_7d493 6 = .ok (.aload_n 0, 1) := by decide +kernel
theorem dJ0_coder_7d493_7 : decode cJ0_coder_7d493 7 = .ok (.getfield 15, 3) := by decide +kernel
theorem dJ0_coder_7d493_10 : decode cJ0_coder_7d493 10 = .ok (.goto 4, 3) := by decide +kernel
theorem dJ0_coder_7d493_13 : decode cJ0_coder_7d493 13 = .ok (.iconst 1, 1) := by decide +kernel
theorem dJ0_coder_7d493_14 : decode cJ0_coder_7d493 14 = .ok (.ireturn, 1) := by decide +kernel
theorem dJ0_isLatin1_aae02_0 : decode cJ0_isLatin1_aae02 0 = .ok (.getstatic 38, 3) := by decide +kernel
theorem dJ0_isLatin1_aae02_3 : decode cJ0_isLatin1_aae02 3 = .ok (.ifCond .eq 14, 3) := by decide +kernel
theorem dJ0_isLatin1_aae02_6 : decode cJ0_isLatin1_aae02 6 = .ok (.aload_n 0, 1) := by decide +kernel
theorem dJ0_isLatin1_aae02_7 : decode cJ0_isLatin1_aae02 7 = .ok (.getfield 15, 3) := by decide +kernel
theorem dJ0_isLatin1_aae02_10 : decode cJ0_isLatin1_aae02 10 = .ok (.ifCond .ne 7, 3) := by decide +kernel
theorem dJ0_isLatin1_aae02_13 : decode cJ0_isLatin1_aae02 13 = .ok (.iconst 1, 1) := by decide +kernel
theorem dJ0_isLatin1_aae02_14 : decode cJ0_isLatin1_aae02 14 = .ok (.goto 4, 3) := by decide +kernel
theorem dJ0_isLatin1_aae02_17 : decode cJ0_isLatin1_aae02 17 = .ok (.iconst 0, 1) := by decide +kernel
theorem dJ0_isLatin1_aae02_18 : decode cJ0_isLatin1_aae02 18 = .ok (.ireturn, 1) := by decide +kernel
set_option maxRecDepth 20000 in
theorem ggJ0_checkIndex_df160_J3_checkIndex_8e157 : GoodIn wsJ0_checkIndex_df160 wsJ3_checkIndex_8e157 := goodIn_r _ [5] (by decide +kernel) (by decide +kernel)
set_option maxRecDepth 20000 in
theorem gJ0_checkIndex_df160_J3_checkIndex_8e157 : GoodIn wsJ0_checkIndex_df160 (va_wsS RJ0 1059 yJ3_checkIndex_8e157 wsJ3_checkIndex_8e157) := goodIn_app (goodIn_of _ (by decide +kernel)) ggJ0_checkIndex_df160_J3_checkIndex_8e157
theorem dJ0_checkIndex_df160_0 : decode cJ0_checkIndex_df160 0 = .ok (.iload_n 0, 1) := by decide +kernel
theorem dJ0_checkIndex_df160_1 : decode cJ0_checkIndex_df160 1 = .ok (.iload_n 1, 1) := by decide +kernel
theorem dJ0_checkIndex_df160_2 : decode cJ0_checkIndex_df160 2 = .ok (.getstatic 1053, 3) := by decide +kernel
theorem dJ0_checkIndex_df160_5 : decode cJ0_checkIndex_df160 5 = .ok (.invokestatic 1059, 3) := by decide +kernel
theorem dJ0_checkIndex_df160_8 : decode cJ0_checkIndex_df160 8 = .ok (.pop, 1) := by decide +kernel
theorem dJ0_checkIndex_df160_9 : decode cJ0_checkIndex_df160 9 = .ok (.return_, 1) := by decide +kernel
set_option maxRecDepth 20000 in
theorem ggJ1_charAt_3b067_J0_checkIndex_df160 : GoodIn wsJ1_charAt_3b067 wsJ0_checkIndex_df160 := goodIn_r _ [4, 5, 6, 7, 8, 9] (by decide +kernel) (by decide +kernel)
set_option maxRecDepth 20000 in
theorem gJ1_charAt_3b067_J0_checkIndex_df160 : GoodIn wsJ1_charAt_3b067 (va_wsS RJ1 9 yJ0_checkIndex_df160 wsJ0_checkIndex_df160) := goodIn_app (goodIn_of _ (by decide +kernel)) ggJ1_charAt_3b067_J0_checkIndex_df160
theorem dJ1_charAt_3b067_0 : decode cJ1_charAt_3b067 0 = .ok (.iload_n 1, 1) := by decide +kernel
theorem dJ1_charAt_3b067_1 : decode cJ1_charAt_3b067 1 = .ok (.aload_n 0, 1) := by decide +kernel
theorem dJ1_charAt_3b067_2 : decode cJ1_charAt_3b067 2 = .ok (.arraylength, 1) := by decide +kernel
theorem dJ1_charAt_3b067_3 : decode cJ1_charAt_3b067 3 = .ok (.invokestatic 9, 3) := by decide +kernel
theorem dJ1_charAt_3b067_6 : decode cJ1_charAt_3b067 6 = .ok (.aload_n 0, 1) := by decide +kernel
theorem dJ1_charAt_3b067_7 : decode cJ1_charAt_3b067 7 = .ok (.iload_n 1, 1) := by decide +kernel
theorem dJ1_charAt_3b067_8 : decode cJ1_charAt_3b067 8 = .ok (.baload, 1) := by decide +kernel
theorem dJ1_charAt_3b067_9 : decode cJ1_charAt_3b067 9 = .ok (.sipush 255, 3) := by decide +kernel
theorem dJ1_charAt_3b067_12 : decode cJ1_charAt_3b067 12 = .ok (.iand, 1) := by decide +kernel
theorem dJ1_charAt_3b067_13 : decode cJ1_charAt_3b067 13 = .ok (.i2c, 1) := by decide +kernel
theorem dJ1_charAt_3b067_14 : decode cJ1_charAt_3b067 14 = .ok (.ireturn, 1) := by decide +kernel
set_option maxRecDepth 20000 in
theorem ggJ2_getChar_3b067_J2_length_9d52b : GoodIn wsJ2_getChar_3b067 wsJ2_length_9d52b := goodIn_r _ [7] (by decide +kernel) (by decide +kernel)
set_option maxRecDepth 20000 in
theorem gJ2_getChar_3b067_J2_length_9d52b : GoodIn wsJ2_getChar_3b067 (va_wsS RJ2 48 yJ2_length_9d52b wsJ2_length_9d52b) := goodIn_app (goodIn_of _ (by decide +kernel)) ggJ2_getChar_3b067_J2_length_9d52b
theorem dJ2_getChar_3b067_0 : decode cJ2_getChar_3b067 0 = .ok (.getstatic 44, 3) := by decide +kernel
theorem dJ2_getChar_3b067_3 : decode cJ2_getChar_3b067 3 = .ok (.ifCond .ne 25, 3) := by decide +kernel
theorem dJ2_getChar_3b067_6 : decode cJ2_getChar_3b067 6 = .ok (.iload_n 1, 1) := by decide +kernel
theorem dJ2_getChar_3b067_7 : decode cJ2_getChar_3b067 7 = .ok (.ifCond .lt 11, 3) := by decide +kernel
theorem dJ2_getChar_3b067_10 : decode cJ2_getChar_3b067 10 = .ok (.iload_n 1, 1) := by decide +kernel
theorem dJ2_getChar_3b067_11 : decode cJ2_getChar_3b067 11 = .ok (.aload_n 0, 1) := by decide +kernel
theorem dJ2_getChar_3b067_12 : decode cJ2_getChar_3b067 12 = .ok (.invokestatic 48, 3) := by decide +kernel
theorem dJ2_getChar_3b067_15 : decode cJ2_getChar_3b067 15 = .ok (.if_icmp .lt 13, 3) := by decide +kernel
theorem dJ2_getChar_3b067_18 : decode cJ2_getChar_3b067 18 = .ok (.new 52, 3) := by decide +kernel
theorem dJ2_getChar_3b067_21 : decode cJ2_getChar_3b067 21 = .ok (.dup, 1) := by decide +kernel
theorem dJ2_getChar_3b067_22 : decode cJ2_getChar_3b067 22 = .ok (.ldc 54, 2) := by decide +kernel
theorem dJ2_getChar_3b067_24 : decode cJ2_getChar_3b067 24 = .ok (.invokespecial 56, 3) := by decide +kernel
theorem dJ2_getChar_3b067_27 : decode cJ2_getChar_3b067 27 = .ok (.athrow, 1) := by decide +kernel
theorem dJ2_getChar_3b067_28 : decode cJ2_getChar_3b067 28 = .ok (.iload_n 1, 1) := by decide +kernel
theorem dJ2_getChar_3b067_29 : decode cJ2_getChar_3b067 29 = .ok (.iconst 1, 1) := by decide +kernel
theorem dJ2_getChar_3b067_30 : decode cJ2_getChar_3b067 30 = .ok (.ishl, 1) := by decide +kernel
theorem dJ2_getChar_3b067_31 : decode cJ2_getChar_3b067 31 = .ok (.istore_n 1, 1) := by decide +kernel
theorem dJ2_getChar_3b067_32 : decode cJ2_getChar_3b067 32 = .ok (.aload_n 0, 1) := by decide +kernel
theorem dJ2_getChar_3b067_33 : decode cJ2_getChar_3b067 33 = .ok (.iload_n 1, 1) := by decide +kernel
theorem dJ2_getChar_3b067_34 : decode cJ2_getChar_3b067 34 = .ok (.iinc 1 1, 3) := by decide +kernel
theorem dJ2_getChar_3b067_37 : decode cJ2_getChar_3b067 37 = .ok (.baload, 1) := by decide +kernel
theorem dJ2_getChar_3b067_38 : decode cJ2_getChar_3b067 38 = .ok (.sipush 255, 3) := by decide +kernel
theorem dJ2_getChar_3b067_41 : decode cJ2_getChar_3b067 41 = .ok (.iand, 1) := by decide +kernel
theorem dJ2_getChar_3b067_42 : decode cJ2_getChar_3b067 42 = .ok (.getstatic 59, 3) := by decide +kernel
theorem dJ2_getChar_3b067_45 : decode cJ2_getChar_3b067 45 = .ok (.ishl, 1) := by decide +kernel
theorem dJ2_getChar_3b067_46 : decode cJ2_getChar_3b067 46 = .ok (.aload_n 0, 1) := by decide +kernel
theorem dJ2_getChar_3b067_47 : decode cJ2_getChar_3b067 47 = .ok (.iload_n 1, 1) := by decide +kernel
theorem dJ2_getChar_3b067_48 : decode cJ2_getChar_3b067 48 = .ok (.baload, 1) := by decide +kernel
theorem dJ2_getChar_3b067_49 : decode cJ2_getChar_3b067 49 = .ok (.sipush 255, 3) := by decide +kernel
theorem dJ2_getChar_3b067_52 : decode cJ2_getChar_3b067 52 = .ok (.iand, 1) := by decide +kernel
theorem dJ2_getChar_3b067_53 : decode cJ2_getChar_3b067 53 = .ok (.getstatic 63, 3) := by decide +kernel
theorem dJ2_getChar_3b067_56 : decode cJ2_getChar_3b067 56 = .ok (.ishl, 1) := by decide +kernel
theorem dJ2_getChar_3b067_57 : decode cJ2_getChar_3b067 57 = .ok (.ior, 1) := by decide +kernel
theorem dJ2_getChar_3b067_58 : decode cJ2_getChar_3b067 58 = .ok (.i2c, 1) := by decide +kernel
theorem dJ2_getChar_3b067_59 : decode cJ2_getChar_3b067 59 = .ok (.ireturn, 1) := by decide +kernel
theorem dJ2_length_9d52b_0 : decode cJ2_length_9d52b 0 = .ok (.aload_n 0, 1) := by decide +kernel
theorem dJ2_length_9d52b_1 : decode cJ2_length_9d52b 1 = .ok (.arraylength, 1) := by decide +kernel
theorem dJ2_length_9d52b_2 : decode cJ2_length_9d52b 2 = .ok (.iconst 1, 1) := by decide +kernel
theorem dJ2_length_9d52b_3 : decode cJ2_length_9d52b 3 = .ok (.ishr, 1) := by decide +kernel
theorem dJ2_length_9d52b_4 : decode cJ2_length_9d52b 4 = .ok (.ireturn, 1) := by decide +kernel
set_option maxRecDepth 20000 in
theorem ggJ2_charAt_3b067_J2_checkIndex_2214a : GoodIn wsJ2_charAt_3b067 wsJ2_checkIndex_2214a := goodIn_r _ [4, 5, 6, 3, 7, 8, 9, 10, 11, 12, 13, 14, 15, 16] (by decide +kernel) (by decide +kernel)
set_option maxRecDepth 20000 in
theorem gJ2_charAt_3b067_J2_checkIndex_2214a : GoodIn wsJ2_charAt_3b067 (va_wsS RJ2 67 yJ2_checkIndex_2214a wsJ2_checkIndex_2214a) := goodIn_app (goodIn_of _ (by decide +kernel)) ggJ2_charAt_3b067_J2_checkIndex_2214a
set_option maxRecDepth 20000 in
theorem ggJ2_charAt_3b067_J2_getChar_3b067 : GoodIn wsJ2_charAt_3b067 wsJ2_getChar_3b067 := goodIn_r _ [19, 20, 21, 22, 5, 6, 3, 7] (by decide +kernel) (by decide +kernel)
set_option maxRecDepth 20000 in
theorem gJ2_charAt_3b067_J2_getChar_3b067 : GoodIn wsJ2_charAt_3b067 (va_wsS RJ2 71 yJ2_getChar_3b067 wsJ2_getChar_3b067) := goodIn_app (goodIn_of _ (by decide +kernel)) ggJ2_charAt_3b067_J2_getChar_3b067
theorem dJ2_charAt_3b067_0 : decode cJ2_charAt_3b067 0 = .ok (.iload_n 1, 1) := by decide +kernel
theorem dJ2_charAt_3b067_1 : decode cJ2_charAt_3b067 1 = .ok (.aload_n 0, 1) := by decide +kernel
theorem dJ2_charAt_3b067_2 : decode cJ2_charAt_3b067 2 = .ok (.invokestatic 67, 3) := by decide +kernel
theorem dJ2_charAt_3b067_5 : decode cJ2_charAt_3b067 5 = .ok (.aload_n 0, 1) := by decide +kernel
theorem dJ2_charAt_3b067_6 : decode cJ2_charAt_3b067 6 = .ok (.iload_n 1, 1) := by decide +kernel
theorem dJ2_charAt_3b067_7 : decode cJ2_charAt_3b067 7 = .ok (.invokestatic 71, 3) := by decide +kernel
theorem dJ2_charAt_3b067_10 : decode cJ2_charAt_3b067 10 = .ok (.ireturn, 1) := by decide +kernel
set_option maxRecDepth 20000 in
theorem ggJ2_checkIndex_2214a_J2_length_9d52b : GoodIn wsJ2_checkIndex_2214a wsJ2_length_9d52b := goodIn_r _ [4] (by decide +kernel) (by decide +kernel)
set_option maxRecDepth 20000 in
theorem gJ2_checkIndex_2214a_J2_length_9d52b : GoodIn wsJ2_checkIndex_2214a (va_wsS RJ2 48 yJ2_length_9d52b wsJ2_length_9d52b) := goodIn_app (goodIn_of _ (by decide +kernel)) ggJ2_checkIndex_2214a_J2_length_9d52b
set_option maxRecDepth 20000 in
theorem ggJ2_checkIndex_2214a_J0_checkIndex_df160 : GoodIn wsJ2_checkIndex_2214a wsJ0_checkIndex_df160 := goodIn_r _ [8, 9, 10, 11, 12, 13] (by decide +kernel) (by decide +kernel)
set_option maxRecDepth 20000 in
theorem gJ2_checkIndex_2214a_J0_checkIndex_df160 : GoodIn wsJ2_checkIndex_2214a (va_wsS RJ2 414 yJ0_checkIndex_df160 wsJ0_checkIndex_df160) := goodIn_app (goodIn_of _ (by decide +kernel)) ggJ2_checkIndex_2214a_J0_checkIndex_df160
theorem dJ2_checkIndex_2214a_0 : decode cJ2_checkIndex_2214a 0 = .ok (.iload_n 0, 1) := by decide +kernel
theorem dJ2_checkIndex_2214a_1 : decode cJ2_checkIndex_2214a 1 = .ok (.aload_n 1, 1) := by decide +kernel
theorem dJ2_checkIndex_2214a_2 : decode cJ2_checkIndex_2214a 2 = .ok (.invokestatic 48, 3) := by decide +kernel
theorem dJ2_checkIndex_2214a_5 : decode cJ2_checkIndex_2214a 5 = .ok (.invokestatic 414, 3) := by decide +kernel
theorem dJ2_checkIndex_2214a_8 : decode cJ2_checkIndex_2214a 8 = .ok (.return_, 1) := by decide +kernel
theorem dJ3_checkIndex_8e157_0 : decode cJ3_checkIndex_8e157 0 = .ok (.iload_n 0, 1) := by decide +kernel
theorem dJ3_checkIndex_8e157_1 : decode cJ3_checkIndex_8e157 1 = .ok (.ifCond .lt 8, 3) := by decide +kernel
theorem dJ3_checkIndex_8e157_4 : decode cJ3_checkIndex_8e157 4 = .ok (.iload_n 0, 1) := by decide +kernel
theorem dJ3_checkIndex_8e157_5 : decode cJ3_checkIndex_8e157 5 = .ok (.iload_n 1, 1) := by decide +kernel
theorem dJ3_checkIndex_8e157_6 : decode cJ3_checkIndex_8e157 6 = .ok (.if_icmp .lt 10, 3) := by decide +kernel
theorem dJ3_checkIndex_8e157_9 : decode cJ3_checkIndex_8e157 9 = .ok (.aload_n 2, 1) := by decide +kernel
theorem dJ3_checkIndex_8e157_10 : decode cJ3_checkIndex_8e157 10 = .ok (.iload_n 0, 1) := by decide +kernel
theorem dJ3_checkIndex_8e157_11 : decode cJ3_checkIndex_8e157 11 = .ok (.iload_n 1, 1) := by decide +kernel
theorem dJ3_checkIndex_8e157_12 : decode cJ3_checkIndex_8e157 12 = .ok (.invokestatic 95, 3) := by decide +kernel
theorem dJ3_checkIndex_8e157_15 : decode cJ3_checkIndex_8e157 15 = .ok (.athrow, 1) := by decide +kernel
theorem dJ3_checkIndex_8e157_16 : decode cJ3_checkIndex_8e157 16 = .ok (.iload_n 0, 1) := by decide +kernel
theorem dJ3_checkIndex_8e157_17 : decode cJ3_checkIndex_8e157 17 = .ok (.ireturn, 1) := by decide +kernel
set_option maxRecDepth 20000 in
theorem ggL_law_X9_init : GoodIn wsL_law wsX9_init := goodIn_r _ [9, 10, 11, 12, 13, 14, 15, 16, 17, 18, 19, 20, 21, 22, 23, 24, 25, 26, 27, 28, 29, 30, 31, 32, 33, 34, 35, 36, 37, 38, 39, 40, 41, 42, 43, 44, 45, 46, 47, 48, 49, 50, 51, 52, 53, 54, 55, 56, 57, 58, 59, 60, 61, 62, 63, 64, 65, 66, 67, 68, 69, 70, 71, 72, 73, 74, 75, 76, 77, 78, 79, 80, 81, 82, 83, 84, 85, 86, 87, 88, 89, 90, 91, 92, 93, 94, 95, 96, 97, 98, 99, 100, 101, 102, 103, 104, 105, 106, 107, 108, 109, 110, 111, 112, 113, 114, 115, 116, 117, 118, 119, 120, 121, 122, 123, 124, 125, 126, 127, 128, 129, 130, 131, 132, 133, 134, 135, 136, 137, 1186, 1187, 1188, 1189, 1190, 1191, 1192, 1193, 1194, 1195, 1141, 1142, 1143, 1144, 1145, 1146, 1147, 1148, 1149, 1150, 1151, 1152, 1196, 1197, 1198, 1199, 1200, 1201, 1202, 1203, 1204, 1205, 1206, 1207, 1208, 1209, 1210, 1211, 1212, 1213, 1214, 1215, 1216, 1217, 1218, 1219, 1220, 1221, 1222, 1223, 1224, 1225, 1226, 1227, 1228, 1229, 1230, 1231, 1232, 1233, 1234, 1235, 1236, 1237, 1238, 1239, 1240, 1241, 1242, 1243, 1244] (by decide +kernel) (by decide +kernel)
set_option maxRecDepth 20000 in
theorem gL_law_X9_init : GoodIn wsL_law (wsX9_init) := ggL_law_X9_init
set_option maxRecDepth 20000 in
theorem ggL_law_X10_init : GoodIn wsL_law wsX10_init := goodIn_r _ [140, 141, 11, 12, 18, 142, 110, 143, 144, 145, 146, 147, 148, 149, 150, 151, 152, 153, 154, 155, 156, 157, 158, 159, 160, 161, 162, 163, 164, 165, 1153, 1154, 1155, 1156, 1157, 1158, 1159, 1160, 1161, 1162, 1163, 1164, 1165, 1166, 1167, 1168, 1169, 1170, 1171, 1172, 1173, 1174, 1175, 1176, 1177, 1178, 1179, 1180, 1181, 1182, 1183, 1184, 1185] (by decide +kernel) (by decide +kernel)
set_option maxRecDepth 20000 in
theorem gL_law_X10_init : GoodIn wsL_law (wsX10_init) := ggL_law_X10_init
set_option maxRecDepth 20000 in
theorem ggL_law_X9_told : GoodIn wsL_law wsX9_told := goodIn_r _ [169, 170, 16, 171, 172, 173, 174, 2, 175, 19, 1141, 1142, 1143, 1144, 1145, 1146, 1147, 1148, 1149, 1150, 1151, 1152, 1186, 1187, 1188, 1189, 1190, 1191, 1192, 1193, 1194, 1195] (by decide +kernel) (by decide +kernel)
set_option maxRecDepth 20000 in
theorem gL_law_X9_told : GoodIn wsL_law (wsV RL 13 RX9 yX9_told wsX9_told) := goodIn_app (goodIn_of _ (by decide +kernel)) ggL_law_X9_told
set_option maxRecDepth 20000 in
theorem ggL_law_X10_told : GoodIn wsL_law wsX10_told := goodIn_r _ [179, 180, 142, 181, 182, 5, 183, 184, 185, 186, 187, 144, 1153, 1154, 1155, 1156, 1157, 1158, 1159, 1160, 1161, 1162, 1163, 1164, 1165, 1166, 1167, 1168, 1169, 1170, 1171, 1172, 1173, 1174, 1175, 1176, 1177, 1178, 1179, 1180, 1181, 1182, 1183, 1184, 1185] (by decide +kernel) (by decide +kernel)
set_option maxRecDepth 20000 in
theorem gL_law_X10_told : GoodIn wsL_law (wsV RL 17 RX10 yX10_told wsX10_told) := goodIn_app (goodIn_of _ (by decide +kernel)) ggL_law_X10_told
set_option maxRecDepth 20000 in
theorem ggL_law_X9_allowed : GoodIn wsL_law wsX9_allowed := goodIn_r _ [191, 16, 192, 193, 2, 194, 195, 196, 197, 172, 173, 174, 175, 19, 198, 199, 200, 15, 201, 49, 202, 203, 204, 205, 206, 207, 1141, 1142, 1143, 1144, 1145, 1146, 1147, 1148, 1149, 1150, 1151, 1152, 1186, 1187, 1188, 1189, 1190, 1191, 1192, 1193, 1194, 1195] (by decide +kernel) (by decide +kernel)
set_option maxRecDepth 20000 in
theorem gL_law_X9_allowed : GoodIn wsL_law (wsV RL 18 RX9 yX9_allowed wsX9_allowed) := goodIn_app (goodIn_of _ (by decide +kernel)) ggL_law_X9_allowed
set_option maxRecDepth 20000 in
theorem ggL_law_X10_allowed : GoodIn wsL_law wsX10_allowed := goodIn_r _ [211, 212, 213, 5, 214, 181, 182, 183, 215, 216, 217, 218, 142, 219, 220, 221, 222, 223, 224, 184, 185, 186, 187, 144, 1153, 1154, 1155, 1156, 1157, 1158, 1159, 1160, 1161, 1162, 1163, 1164, 1165, 1166, 1167, 1168, 1169, 1170, 1171, 1172, 1173, 1174, 1175, 1176, 1177, 1178, 1179, 1180, 1181, 1182, 1183, 1184, 1185] (by decide +kernel) (by decide +kernel)
set_option maxRecDepth 20000 in
theorem gL_law_X10_allowed : GoodIn wsL_law (wsV RL 22 RX10 yX10_allowed wsX10_allowed) := goodIn_app (goodIn_of _ (by decide +kernel)) ggL_law_X10_allowed
set_option maxRecDepth 20000 in
theorem ggL_law_X9_way : GoodIn wsL_law wsX9_way := goodIn_r _ [228, 16, 229, 230, 231, 2, 232, 195, 196, 197, 172, 173, 174, 175, 19, 233, 234, 235, 53, 236, 237, 238, 239, 240, 241, 242, 243, 244, 1141, 1142, 1143, 1144, 1145, 1146, 1147, 1148, 1149, 1150, 1151, 1152, 1186, 1187, 1188, 1189, 1190, 1191, 1192, 1193, 1194, 1195, 1236, 1237, 1238, 1239, 1240, 1241, 1242] (by decide +kernel) (by decide +kernel)
set_option maxRecDepth 20000 in
theorem gL_law_X9_way : GoodIn wsL_law (wsV RL 23 RX9 yX9_way wsX9_way) := goodIn_app (goodIn_of _ (by decide +kernel)) ggL_law_X9_way
set_option maxRecDepth 20000 in
theorem ggL_law_X10_way : GoodIn wsL_law wsX10_way := goodIn_r _ [248, 181, 182, 5, 183, 184, 185, 186, 187, 144, 249, 250, 251, 252, 142, 253, 254, 255, 256, 1153, 1154, 1155, 1156, 1157, 1158, 1159, 1160, 1161, 1162, 1163, 1164, 1165, 1166, 1167, 1168, 1169, 1170, 1171, 1172, 1173, 1174, 1175, 1176, 1177, 1178, 1179, 1180, 1181, 1182, 1183, 1184, 1185] (by decide +kernel) (by decide +kernel)
set_option maxRecDepth 20000 in
theorem gL_law_X10_way : GoodIn wsL_law (wsV RL 27 RX10 yX10_way wsX10_way) := goodIn_app (goodIn_of _ (by decide +kernel)) ggL_law_X10_way
set_option maxRecDepth 20000 in
theorem ggL_law_X9_one : GoodIn wsL_law wsX9_one := goodIn_r _ [260, 16, 229, 261, 230, 231, 2, 232, 195, 196, 197, 172, 173, 174, 175, 19, 262, 263, 264, 57, 265, 88, 82, 266, 267, 268, 53, 269, 68, 69, 270, 85, 86, 87, 271, 272, 273, 274, 275, 276, 277, 278, 1141, 1142, 1143, 1144, 1145, 1146, 1147, 1148, 1149, 1150, 1151, 1152, 1186, 1187, 1188, 1189, 1190, 1191, 1192, 1193, 1194, 1195, 1236, 1237, 1238, 1239, 1240, 1241, 1242, 1243, 1244] (by decide +kernel) (by decide +kernel)
set_option maxRecDepth 20000 in
theorem gL_law_X9_one : GoodIn wsL_law (wsV RL 28 RX9 yX9_one wsX9_one) := goodIn_app (goodIn_of _ (by decide +kernel)) ggL_law_X9_one
set_option maxRecDepth 20000 in
theorem ggL_law_X10_one : GoodIn wsL_law wsX10_one := goodIn_r _ [282, 142, 181, 182, 5, 183, 184, 185, 186, 187, 144, 1153, 1154, 1155, 1156, 1157, 1158, 1159, 1160, 1161, 1162, 1163, 1164, 1165, 1166, 1167, 1168, 1169, 1170, 1171, 1172, 1173, 1174, 1175, 1176, 1177, 1178, 1179, 1180, 1181, 1182, 1183, 1184, 1185] (by decide +kernel) (by decide +kernel)
set_option maxRecDepth 20000 in
theorem gL_law_X10_one : GoodIn wsL_law (wsV RL 31 RX10 yX10_one wsX10_one) := goodIn_app (goodIn_of _ (by decide +kernel)) ggL_law_X10_one
set_option maxRecDepth 20000 in
theorem ggL_law_X9_type : GoodIn wsL_law wsX9_type := goodIn_r _ [286, 16, 287, 288, 195, 196, 2, 197, 172, 173, 174, 175, 19, 289, 276, 277, 57, 278, 88, 290, 85, 86, 87, 82, 1141, 1142, 1143, 1144, 1145, 1146, 1147, 1148, 1149, 1150, 1151, 1152, 1186, 1187, 1188, 1189, 1190, 1191, 1192, 1193, 1194, 1195, 1243, 1244] (by decide +kernel) (by decide +kernel)
set_option maxRecDepth 20000 in
theorem gL_law_X9_type : GoodIn wsL_law (wsV RL 34 RX9 yX9_type wsX9_type) := goodIn_app (goodIn_of _ (by decide +kernel)) ggL_law_X9_type
set_option maxRecDepth 20000 in
theorem ggL_law_X10_type : GoodIn wsL_law wsX10_type := goodIn_r _ [294, 142, 295, 181, 182, 5, 183, 184, 185, 186, 187, 144, 1153, 1154, 1155, 1156, 1157, 1158, 1159, 1160, 1161, 1162, 1163, 1164, 1165, 1166, 1167, 1168, 1169, 1170, 1171, 1172, 1173, 1174, 1175, 1176, 1177, 1178, 1179, 1180, 1181, 1182, 1183, 1184, 1185] (by decide +kernel) (by decide +kernel)
set_option maxRecDepth 20000 in
theorem gL_law_X10_type : GoodIn wsL_law (wsV RL 38 RX10 yX10_type wsX10_type) := goodIn_app (goodIn_of _ (by decide +kernel)) ggL_law_X10_type
set_option maxRecDepth 20000 in
theorem ggL_law_X9_clear : GoodIn wsL_law wsX9_clear := goodIn_r _ [299, 16, 287, 289, 276, 277, 57, 278, 88, 300, 301, 302, 303, 1141, 1142, 1143, 1144, 1145, 1146, 1147, 1148, 1149, 1150, 1151, 1152, 1186, 1187, 1188, 1189, 1190, 1191, 1192, 1193, 1194, 1195, 1243, 1244] (by decide +kernel) (by decide +kernel)
set_option maxRecDepth 20000 in
theorem gL_law_X9_clear : GoodIn wsL_law (wsV RL 39 RX9 yX9_clear wsX9_clear) := goodIn_app (goodIn_of _ (by decide +kernel)) ggL_law_X9_clear
set_option maxRecDepth 20000 in
theorem ggL_law_X10_clear : GoodIn wsL_law wsX10_clear := goodIn_r _ [307, 142, 1153, 1154, 1155, 1156, 1157, 1158, 1159, 1160, 1161, 1162, 1163, 1164, 1165, 1166, 1167, 1168, 1169, 1170, 1171, 1172, 1173, 1174, 1175, 1176, 1177, 1178, 1179, 1180, 1181, 1182, 1183, 1184, 1185] (by decide +kernel) (by decide +kernel)
set_option maxRecDepth 20000 in
theorem gL_law_X10_clear : GoodIn wsL_law (wsV RL 43 RX10 yX10_clear wsX10_clear) := goodIn_app (goodIn_of _ (by decide +kernel)) ggL_law_X10_clear
set_option maxRecDepth 20000 in
theorem ggL_law_X9_read : GoodIn wsL_law wsX9_read := goodIn_r _ [311, 24, 16, 287, 229, 312, 313, 314, 315, 23, 316, 95, 317, 93, 318, 319, 320, 321, 322, 53, 323, 237, 68, 69, 70, 71, 72, 73, 324, 301, 302, 57, 303, 88, 325, 276, 277, 278, 326, 327, 328, 329, 330, 331, 332, 333, 334, 335, 336, 337, 338, 82, 196, 2, 197, 339, 340, 341, 342, 343, 344, 345, 346, 347, 348, 349, 350, 351, 352, 353, 354, 355, 356, 357, 358, 359, 360, 361, 362, 363, 364, 365, 366, 367, 368, 369, 370, 371, 372, 373, 374, 375, 376, 377, 378, 379, 380, 381, 382, 383, 384, 385, 386, 387, 388, 389, 390, 391, 392, 393, 394, 395, 396, 397, 398, 399, 400, 401, 402, 403, 404, 405, 406, 407, 408, 234, 235, 236, 231, 232, 195, 238, 239, 240, 409, 242, 243, 244, 410, 411, 412, 413, 414, 415, 416, 417, 418, 419, 263, 264, 265, 420, 267, 268, 269, 270, 85, 86, 87, 421, 422, 423, 424, 425, 426, 427, 428, 429, 430, 431, 432, 433, 275, 434, 435, 436, 437, 438, 439, 440, 441, 442, 443, 272, 273, 274, 444, 445, 446, 447, 448, 449, 450, 451, 452, 453, 454, 455, 456, 457, 458, 459, 1141, 1142, 1143, 1144, 1145, 1146, 1147, 1148, 1149, 1150, 1151, 1152, 1186, 1187, 1188, 1189, 1190, 1191, 1192, 1193, 1194, 1195, 1196, 1197, 1198, 1199, 1200, 1201, 1236, 1237, 1238, 1239, 1240, 1241, 1242, 1243, 1244] (by decide +kernel) (by decide +kernel)
set_option maxRecDepth 20000 in
theorem gL_law_X9_read : GoodIn wsL_law (wsV RL 44 RX9 yX9_read wsX9_read) := goodIn_app (goodIn_of _ (by decide +kernel)) ggL_law_X9_read
set_option maxRecDepth 20000 in
theorem ggL_law_X10_read : GoodIn wsL_law wsX10_read := goodIn_r _ [463, 464, 465, 466, 467, 146, 468, 142, 147, 148, 149, 150, 151, 152, 469, 470, 471, 5, 472, 473, 474, 475, 476, 477, 478, 181, 182, 183, 479, 480, 481, 482, 483, 484, 485, 486, 487, 488, 489, 490, 491, 492, 493, 494, 495, 496, 497, 498, 1153, 1154, 1155, 1156, 1157, 1158, 1159, 1160, 1161, 1162, 1163, 1164, 1165, 1166, 1167, 1168, 1169, 1170, 1171, 1172, 1173, 1174, 1175, 1176, 1177, 1178, 1179, 1180, 1181, 1182, 1183, 1184, 1185] (by decide +kernel) (by decide +kernel)
set_option maxRecDepth 20000 in
theorem gL_law_X10_read : GoodIn wsL_law (wsV RL 47 RX10 yX10_read wsX10_read) := goodIn_app (goodIn_of _ (by decide +kernel)) ggL_law_X10_read
set_option maxRecDepth 20000 in
theorem ggL_law_X9_judged : GoodIn wsL_law wsX9_judged := goodIn_r _ [502, 28, 16, 229, 192, 193, 2, 194, 195, 196, 197, 172, 173, 174, 175, 19, 503, 504, 505, 27, 506, 507, 101, 508, 102, 509, 453, 454, 57, 455, 88, 456, 301, 302, 303, 457, 336, 337, 338, 82, 458, 85, 86, 87, 510, 511, 272, 273, 53, 274, 68, 275, 276, 277, 278, 512, 513, 431, 432, 433, 70, 514, 515, 516, 517, 518, 519, 520, 521, 522, 523, 524, 73, 434, 525, 526, 527, 528, 529, 530, 531, 234, 235, 236, 237, 231, 232, 238, 239, 240, 532, 533, 534, 535, 536, 537, 538, 539, 199, 200, 15, 201, 49, 202, 203, 204, 205, 206, 207, 540, 541, 542, 543, 544, 545, 546, 547, 548, 549, 550, 551, 552, 1141, 1142, 1143, 1144, 1145, 1146, 1147, 1148, 1149, 1150, 1151, 1152, 1186, 1187, 1188, 1189, 1190, 1191, 1192, 1193, 1194, 1195, 1202, 1203, 1236, 1237, 1238, 1239, 1240, 1241, 1242, 1243, 1244] (by decide +kernel) (by decide +kernel)
set_option maxRecDepth 20000 in
theorem gL_law_X9_judged : GoodIn wsL_law (wsV RL 48 RX9 yX9_judged wsX9_judged) := goodIn_app (goodIn_of _ (by decide +kernel)) ggL_law_X9_judged
set_option maxRecDepth 20000 in
theorem ggL_law_X10_judged : GoodIn wsL_law wsX10_judged := goodIn_r _ [556, 142, 153, 154, 212, 213, 5, 214, 181, 182, 183, 557, 558, 559, 560, 184, 185, 186, 187, 144, 561, 562, 563, 564, 249, 250, 251, 252, 565, 566, 567, 215, 216, 217, 218, 219, 220, 221, 222, 223, 224, 1153, 1154, 1155, 1156, 1157, 1158, 1159, 1160, 1161, 1162, 1163, 1164, 1165, 1166, 1167, 1168, 1169, 1170, 1171, 1172, 1173, 1174, 1175, 1176, 1177, 1178, 1179, 1180, 1181, 1182, 1183, 1184, 1185] (by decide +kernel) (by decide +kernel)
set_option maxRecDepth 20000 in
theorem gL_law_X10_judged : GoodIn wsL_law (wsV RL 51 RX10 yX10_judged wsX10_judged) := goodIn_app (goodIn_of _ (by decide +kernel)) ggL_law_X10_judged
set_option maxRecDepth 20000 in
theorem ggL_law_X9_ends : GoodIn wsL_law wsX9_ends := goodIn_r _ [571, 16, 229, 572, 440, 441, 53, 442, 443, 272, 273, 274, 68, 275, 276, 277, 57, 278, 88, 196, 2, 197, 172, 173, 174, 175, 19, 573, 574, 575, 576, 72, 430, 431, 432, 433, 70, 577, 522, 523, 524, 73, 434, 336, 337, 338, 82, 1141, 1142, 1143, 1144, 1145, 1146, 1147, 1148, 1149, 1150, 1151, 1152, 1186, 1187, 1188, 1189, 1190, 1191, 1192, 1193, 1194, 1195, 1236, 1237, 1238, 1239, 1240, 1241, 1242, 1243, 1244] (by decide +kernel) (by decide +kernel)
set_option maxRecDepth 20000 in
theorem gL_law_X9_ends : GoodIn wsL_law (wsV RL 52 RX9 yX9_ends wsX9_ends) := goodIn_app (goodIn_of _ (by decide +kernel)) ggL_law_X9_ends
set_option maxRecDepth 20000 in
theorem ggL_law_X10_ends : GoodIn wsL_law wsX10_ends := goodIn_r _ [581, 142, 582, 583, 584, 5, 585, 181, 182, 183, 184, 185, 186, 187, 144, 1153, 1154, 1155, 1156, 1157, 1158, 1159, 1160, 1161, 1162, 1163, 1164, 1165, 1166, 1167, 1168, 1169, 1170, 1171, 1172, 1173, 1174, 1175, 1176, 1177, 1178, 1179, 1180, 1181, 1182, 1183, 1184, 1185] (by decide +kernel) (by decide +kernel)
set_option maxRecDepth 20000 in
theorem gL_law_X10_ends : GoodIn wsL_law (wsV RL 55 RX10 yX10_ends wsX10_ends) := goodIn_app (goodIn_of _ (by decide +kernel)) ggL_law_X10_ends
set_option maxRecDepth 20000 in
theorem ggL_law_X9_parted : GoodIn wsL_law wsX9_parted := goodIn_r _ [589, 32, 16, 192, 193, 2, 194, 195, 196, 197, 172, 173, 174, 175, 19, 590, 591, 592, 31, 593, 111, 107, 594, 199, 200, 15, 201, 49, 202, 203, 204, 205, 206, 207, 595, 596, 597, 598, 108, 109, 599, 600, 601, 602, 603, 79, 80, 81, 604, 605, 606, 607, 608, 609, 610, 611, 612, 613, 614, 615, 616, 617, 618, 619, 1141, 1142, 1143, 1144, 1145, 1146, 1147, 1148, 1149, 1150, 1151, 1152, 1204, 1205, 1206, 1207, 1186, 1187, 1188, 1189, 1190, 1191, 1192, 1193, 1194, 1195] (by decide +kernel) (by decide +kernel)
set_option maxRecDepth 20000 in
theorem gL_law_X9_parted : GoodIn wsL_law (wsV RL 56 RX9 yX9_parted wsX9_parted) := goodIn_app (goodIn_of _ (by decide +kernel)) ggL_law_X9_parted
set_option maxRecDepth 20000 in
theorem ggL_law_X10_parted : GoodIn wsL_law wsX10_parted := goodIn_r _ [623, 155, 156, 157, 212, 213, 5, 214, 181, 182, 183, 557, 558, 559, 560, 184, 185, 186, 187, 144, 624, 625, 626, 627, 215, 216, 217, 218, 142, 219, 220, 221, 222, 223, 224, 1153, 1154, 1155, 1156, 1157, 1158, 1159, 1160, 1161, 1162, 1163, 1164, 1165, 1166, 1167, 1168, 1169, 1170, 1171, 1172, 1173, 1174, 1175, 1176, 1177, 1178, 1179, 1180, 1181, 1182, 1183, 1184, 1185] (by decide +kernel) (by decide +kernel)
set_option maxRecDepth 20000 in
theorem gL_law_X10_parted : GoodIn wsL_law (wsV RL 60 RX10 yX10_parted wsX10_parted) := goodIn_app (goodIn_of _ (by decide +kernel)) ggL_law_X10_parted
set_option maxRecDepth 20000 in
theorem ggL_law_X9_row : GoodIn wsL_law wsX9_row := goodIn_r _ [631, 32, 16, 192, 193, 2, 194, 195, 196, 197, 172, 173, 174, 175, 19, 590, 591, 592, 31, 593, 111, 107, 594, 199, 200, 15, 201, 49, 202, 203, 204, 205, 206, 207, 595, 596, 597, 598, 108, 109, 599, 600, 601, 602, 603, 79, 80, 81, 632, 633, 634, 635, 636, 605, 606, 607, 608, 609, 610, 611, 637, 638, 639, 640, 1141, 1142, 1143, 1144, 1145, 1146, 1147, 1148, 1149, 1150, 1151, 1152, 1204, 1205, 1206, 1207, 1186, 1187, 1188, 1189, 1190, 1191, 1192, 1193, 1194, 1195] (by decide +kernel) (by decide +kernel)
set_option maxRecDepth 20000 in
theorem gL_law_X9_row : GoodIn wsL_law (wsV RL 61 RX9 yX9_row wsX9_row) := goodIn_app (goodIn_of _ (by decide +kernel)) ggL_law_X9_row
set_option maxRecDepth 20000 in
theorem ggL_law_X10_row : GoodIn wsL_law wsX10_row := goodIn_r _ [644, 155, 212, 213, 5, 214, 181, 182, 183, 557, 558, 559, 560, 184, 185, 186, 187, 144, 624, 625, 626, 627, 156, 157, 215, 216, 217, 218, 142, 219, 220, 221, 222, 223, 224, 1153, 1154, 1155, 1156, 1157, 1158, 1159, 1160, 1161, 1162, 1163, 1164, 1165, 1166, 1167, 1168, 1169, 1170, 1171, 1172, 1173, 1174, 1175, 1176, 1177, 1178, 1179, 1180, 1181, 1182, 1183, 1184, 1185] (by decide +kernel) (by decide +kernel)
set_option maxRecDepth 20000 in
theorem gL_law_X10_row : GoodIn wsL_law (wsV RL 65 RX10 yX10_row wsX10_row) := goodIn_app (goodIn_of _ (by decide +kernel)) ggL_law_X10_row
set_option maxRecDepth 20000 in
theorem ggL_law_X9_knot : GoodIn wsL_law wsX9_knot := goodIn_r _ [648, 16, 649, 195, 196, 2, 197, 172, 173, 174, 175, 19, 262, 263, 264, 57, 265, 88, 82, 290, 85, 86, 87, 289, 276, 277, 278, 1141, 1142, 1143, 1144, 1145, 1146, 1147, 1148, 1149, 1150, 1151, 1152, 1186, 1187, 1188, 1189, 1190, 1191, 1192, 1193, 1194, 1195, 1243, 1244] (by decide +kernel) (by decide +kernel)
set_option maxRecDepth 20000 in
theorem gL_law_X9_knot : GoodIn wsL_law (wsV RL 66 RX9 yX9_knot wsX9_knot) := goodIn_app (goodIn_of _ (by decide +kernel)) ggL_law_X9_knot
set_option maxRecDepth 20000 in
theorem ggL_law_X10_knot : GoodIn wsL_law wsX10_knot := goodIn_r _ [653, 142, 181, 182, 5, 183, 184, 185, 186, 187, 144, 1153, 1154, 1155, 1156, 1157, 1158, 1159, 1160, 1161, 1162, 1163, 1164, 1165, 1166, 1167, 1168, 1169, 1170, 1171, 1172, 1173, 1174, 1175, 1176, 1177, 1178, 1179, 1180, 1181, 1182, 1183, 1184, 1185] (by decide +kernel) (by decide +kernel)
set_option maxRecDepth 20000 in
theorem gL_law_X10_knot : GoodIn wsL_law (wsV RL 69 RX10 yX10_knot wsX10_knot) := goodIn_app (goodIn_of _ (by decide +kernel)) ggL_law_X10_knot
set_option maxRecDepth 20000 in
theorem ggL_law_X9_untie : GoodIn wsL_law wsX9_untie := goodIn_r _ [657, 16, 649, 658, 659, 289, 276, 277, 57, 278, 88, 300, 301, 302, 303, 1141, 1142, 1143, 1144, 1145, 1146, 1147, 1148, 1149, 1150, 1151, 1152, 1186, 1187, 1188, 1189, 1190, 1191, 1192, 1193, 1194, 1195, 1243, 1244] (by decide +kernel) (by decide +kernel)
set_option maxRecDepth 20000 in
theorem gL_law_X9_untie : GoodIn wsL_law (wsV RL 70 RX9 yX9_untie wsX9_untie) := goodIn_app (goodIn_of _ (by decide +kernel)) ggL_law_X9_untie
set_option maxRecDepth 20000 in
theorem ggL_law_X10_untie : GoodIn wsL_law wsX10_untie := goodIn_r _ [663, 142, 1153, 1154, 1155, 1156, 1157, 1158, 1159, 1160, 1161, 1162, 1163, 1164, 1165, 1166, 1167, 1168, 1169, 1170, 1171, 1172, 1173, 1174, 1175, 1176, 1177, 1178, 1179, 1180, 1181, 1182, 1183, 1184, 1185] (by decide +kernel) (by decide +kernel)
set_option maxRecDepth 20000 in
theorem gL_law_X10_untie : GoodIn wsL_law (wsV RL 73 RX10 yX10_untie wsX10_untie) := goodIn_app (goodIn_of _ (by decide +kernel)) ggL_law_X10_untie
set_option maxRecDepth 20000 in
theorem ggL_law_X9_counted : GoodIn wsL_law wsX9_counted := goodIn_r _ [667, 16, 658, 659, 668, 669, 670, 2, 671, 649, 289, 276, 277, 57, 278, 88, 195, 196, 197, 172, 173, 174, 175, 19, 262, 263, 264, 265, 82, 290, 85, 86, 87, 1141, 1142, 1143, 1144, 1145, 1146, 1147, 1148, 1149, 1150, 1151, 1152, 1186, 1187, 1188, 1189, 1190, 1191, 1192, 1193, 1194, 1195, 1243, 1244] (by decide +kernel) (by decide +kernel)
set_option maxRecDepth 20000 in
theorem gL_law_X9_counted : GoodIn wsL_law (wsV RL 74 RX9 yX9_counted wsX9_counted) := goodIn_app (goodIn_of _ (by decide +kernel)) ggL_law_X9_counted
set_option maxRecDepth 20000 in
theorem ggL_law_X10_counted : GoodIn wsL_law wsX10_counted := goodIn_r _ [675, 142, 676, 677, 678, 5, 679, 181, 182, 183, 184, 185, 186, 187, 144, 1153, 1154, 1155, 1156, 1157, 1158, 1159, 1160, 1161, 1162, 1163, 1164, 1165, 1166, 1167, 1168, 1169, 1170, 1171, 1172, 1173, 1174, 1175, 1176, 1177, 1178, 1179, 1180, 1181, 1182, 1183, 1184, 1185] (by decide +kernel) (by decide +kernel)
set_option maxRecDepth 20000 in
theorem gL_law_X10_counted : GoodIn wsL_law (wsV RL 77 RX10 yX10_counted wsX10_counted) := goodIn_app (goodIn_of _ (by decide +kernel)) ggL_law_X10_counted
set_option maxRecDepth 20000 in
theorem ggL_law_X9_partings : GoodIn wsL_law wsX9_partings := goodIn_r _ [683, 36, 16, 192, 193, 2, 194, 195, 196, 197, 172, 173, 174, 175, 19, 684, 685, 686, 35, 687, 688, 689, 116, 115, 690, 691, 692, 693, 694, 695, 80, 696, 697, 276, 277, 57, 278, 88, 698, 336, 337, 338, 82, 699, 199, 200, 15, 201, 49, 202, 203, 204, 205, 206, 207, 700, 701, 702, 703, 704, 705, 706, 707, 708, 709, 117, 118, 119, 710, 711, 712, 713, 714, 79, 81, 715, 716, 717, 718, 719, 720, 721, 722, 723, 724, 725, 726, 727, 728, 729, 730, 1141, 1142, 1143, 1144, 1145, 1146, 1147, 1148, 1149, 1150, 1151, 1152, 1186, 1187, 1188, 1189, 1190, 1191, 1192, 1193, 1194, 1195, 1208, 1209, 1210, 1211, 1212, 1213, 1243, 1244] (by decide +kernel) (by decide +kernel)
set_option maxRecDepth 20000 in
theorem gL_law_X9_partings : GoodIn wsL_law (wsV RL 78 RX9 yX9_partings wsX9_partings) := goodIn_app (goodIn_of _ (by decide +kernel)) ggL_law_X9_partings
set_option maxRecDepth 20000 in
theorem ggL_law_X10_partings : GoodIn wsL_law wsX10_partings := goodIn_r _ [734, 158, 159, 160, 212, 213, 5, 214, 181, 182, 183, 557, 558, 559, 560, 184, 185, 186, 187, 144, 735, 736, 737, 738, 142, 739, 740, 741, 742, 215, 216, 217, 218, 219, 220, 221, 222, 223, 224, 743, 744, 745, 746, 1153, 1154, 1155, 1156, 1157, 1158, 1159, 1160, 1161, 1162, 1163, 1164, 1165, 1166, 1167, 1168, 1169, 1170, 1171, 1172, 1173, 1174, 1175, 1176, 1177, 1178, 1179, 1180, 1181, 1182, 1183, 1184, 1185] (by decide +kernel) (by decide +kernel)
