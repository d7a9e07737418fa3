theorem dX12_init_0 : decode cX12_init 0 = .ok (.aload_n 0, 1) := by decide +kernel
theorem dX12_init_1 : decode cX12_init 1 = .ok (.invokespecial 1, 3) := by decide +kernel
theorem dX12_init_4 : decode cX12_init 4 = .ok (.aload_n 0, 1) := by decide +kernel
theorem dX12_init_5 : decode cX12_init 5 = .ok (.sipush 1000, 3) := by decide +kernel
theorem dX12_init_8 : decode cX12_init 8 = .ok (.newarray .int, 2) := by decide +kernel
theorem dX12_init_10 : decode cX12_init 10 = .ok (.putfield 7, 3) := by decide +kernel
theorem dX12_init_13 : decode cX12_init 13 = .ok (.aload_n 0, 1) := by decide +kernel
theorem dX12_init_14 : decode cX12_init 14 = .ok (.bipush 6, 2) := by decide +kernel
theorem dX12_init_16 : decode cX12_init 16 = .ok (.newarray .int, 2) := by decide +kernel
theorem dX12_init_18 : decode cX12_init 18 = .ok (.putfield 13, 3) := by decide +kernel
theorem dX12_init_21 : decode cX12_init 21 = .ok (.aload_n 0, 1) := by decide +kernel
theorem dX12_init_22 : decode cX12_init 22 = .ok (.bipush 12, 2) := by decide +kernel
theorem dX12_init_24 : decode cX12_init 24 = .ok (.newarray .long, 2) := by decide +kernel
theorem dX12_init_26 : decode cX12_init 26 = .ok (.putfield 16, 3) := by decide +kernel
theorem dX12_init_29 : decode cX12_init 29 = .ok (.aload_n 0, 1) := by decide +kernel
theorem dX12_init_30 : decode cX12_init 30 = .ok (.bipush 10, 2) := by decide +kernel
theorem dX12_init_32 : decode cX12_init 32 = .ok (.newarray .long, 2) := by decide +kernel
theorem dX12_init_34 : decode cX12_init 34 = .ok (.putfield 20, 3) := by decide +kernel
theorem dX12_init_37 : decode cX12_init 37 = .ok (.aload_n 0, 1) := by decide +kernel
theorem dX12_init_38 : decode cX12_init 38 = .ok (.bipush 12, 2) := by decide +kernel
theorem dX12_init_40 : decode cX12_init 40 = .ok (.newarray .int, 2) := by decide +kernel
theorem dX12_init_42 : decode cX12_init 42 = .ok (.putfield 23, 3) := by decide +kernel
theorem dX12_init_45 : decode cX12_init 45 = .ok (.aload_n 0, 1) := by decide +kernel
theorem dX12_init_46 : decode cX12_init 46 = .ok (.bipush 12, 2) := by decide +kernel
theorem dX12_init_48 : decode cX12_init 48 = .ok (.newarray .int, 2) := by decide +kernel
theorem dX12_init_50 : decode cX12_init 50 = .ok (.putfield 26, 3) := by decide +kernel
theorem dX12_init_53 : decode cX12_init 53 = .ok (.aload_n 0, 1) := by decide +kernel
theorem dX12_init_54 : decode cX12_init 54 = .ok (.bipush 12, 2) := by decide +kernel
theorem dX12_init_56 : decode cX12_init 56 = .ok (.newarray .int, 2) := by decide +kernel
theorem dX12_init_58 : decode cX12_init 58 = .ok (.putfield 29, 3) := by decide +kernel
theorem dX12_init_61 : decode cX12_init 61 = .ok (.aload_n 0, 1) := by decide +kernel
theorem dX12_init_62 : decode cX12_init 62 = .ok (.bipush 10, 2) := by decide +kernel
theorem dX12_init_64 : decode cX12_init 64 = .ok (.newarray .int, 2) := by decide +kernel
theorem dX12_init_66 : decode cX12_init 66 = .ok (.putfield 32, 3) := by decide +kernel
theorem dX12_init_69 : decode cX12_init 69 = .ok (.aload_n 0, 1) := by decide +kernel
theorem dX12_init_70 : decode cX12_init 70 = .ok (.bipush 10, 2) := by decide +kernel
theorem dX12_init_72 : decode cX12_init 72 = .ok (.newarray .int, 2) := by decide +kernel
theorem dX12_init_74 : decode cX12_init 74 = .ok (.putfield 35, 3) := by decide +kernel
theorem dX12_init_77 : decode cX12_init 77 = .ok (.aload_n 0, 1) := by decide +kernel
theorem dX12_init_78 : decode cX12_init 78 = .ok (.iconst 2, 1) := by decide +kernel
theorem dX12_init_79 : decode cX12_init 79 = .ok (.newarray .int, 2) := by decide +kernel
theorem dX12_init_81 : decode cX12_init 81 = .ok (.putfield 38, 3) := by decide +kernel
theorem dX12_init_84 : decode cX12_init 84 = .ok (.aload_n 0, 1) := by decide +kernel
theorem dX12_init_85 : decode cX12_init 85 = .ok (.iconst 2, 1) := by decide +kernel
theorem dX12_init_86 : decode cX12_init 86 = .ok (.newarray .int, 2) := by decide +kernel
theorem dX12_init_88 : decode cX12_init 88 = .ok (.putfield 41, 3) := by decide +kernel
theorem dX12_init_91 : decode cX12_init 91 = .ok (.aload_n 0, 1) := by decide +kernel
theorem dX12_init_92 : decode cX12_init 92 = .ok (.sipush 2000, 3) := by decide +kernel
theorem dX12_init_95 : decode cX12_init 95 = .ok (.newarray .int, 2) := by decide +kernel
theorem dX12_init_97 : decode cX12_init 97 = .ok (.putfield 44, 3) := by decide +kernel
theorem dX12_init_100 : decode cX12_init 100 = .ok (.aload_n 0, 1) := by decide +kernel
theorem dX12_init_101 : decode cX12_init 101 = .ok (.bipush 7, 2) := by decide +kernel
theorem dX12_init_103 : decode cX12_init 103 = .ok (.newarray .int, 2) := by decide +kernel
theorem dX12_init_105 : decode cX12_init 105 = .ok (.putfield 47, 3) := by decide +kernel
theorem dX12_init_108 : decode cX12_init 108 = .ok (.aload_n 0, 1) := by decide +kernel
theorem dX12_init_109 : decode cX12_init 109 = .ok (.bipush 7, 2) := by decide +kernel
theorem dX12_init_111 : decode cX12_init 111 = .ok (.newarray .boolean, 2) := by decide +kernel
theorem dX12_init_113 : decode cX12_init 113 = .ok (.putfield 50, 3) := by decide +kernel
theorem dX12_init_116 : decode cX12_init 116 = .ok (.aload_n 0, 1) := by decide +kernel
theorem dX12_init_117 : decode cX12_init 117 = .ok (.bipush 7, 2) := by decide +kernel
theorem dX12_init_119 : decode cX12_init 119 = .ok (.newarray .int, 2) := by decide +kernel
theorem dX12_init_121 : decode cX12_init 121 = .ok (.putfield 54, 3) := by decide +kernel
theorem dX12_init_124 : decode cX12_init 124 = .ok (.aload_n 0, 1) := by decide +kernel
theorem dX12_init_125 : decode cX12_init 125 = .ok (.bipush 7, 2) := by decide +kernel
theorem dX12_init_127 : decode cX12_init 127 = .ok (.newarray .int, 2) := by decide +kernel
theorem dX12_init_129 : decode cX12_init 129 = .ok (.putfield 57, 3) := by decide +kernel
theorem dX12_init_132 : decode cX12_init 132 = .ok (.aload_n 0, 1) := by decide +kernel
theorem dX12_init_133 : decode cX12_init 133 = .ok (.bipush 7, 2) := by decide +kernel
theorem dX12_init_135 : decode cX12_init 135 = .ok (.newarray .int, 2) := by decide +kernel
theorem dX12_init_137 : decode cX12_init 137 = .ok (.putfield 60, 3) := by decide +kernel
theorem dX12_init_140 : decode cX12_init 140 = .ok (.aload_n 0, 1) := by decide +kernel
theorem dX12_init_141 : decode cX12_init 141 = .ok (.bipush 7, 2) := by decide +kernel
theorem dX12_init_143 : decode cX12_init 143 = .ok (.newarray .int, 2) := by decide +kernel
theorem dX12_init_145 : decode cX12_init 145 = .ok (.putfield 63, 3) := by decide +kernel
theorem dX12_init_148 : decode cX12_init 148 = .ok (.aload_n 0, 1) := by decide +kernel
theorem dX12_init_149 : decode cX12_init 149 = .ok (.bipush 7, 2) := by decide +kernel
theorem dX12_init_151 : decode cX12_init 151 = .ok (.newarray .int, 2) := by decide +kernel
theorem dX12_init_153 : decode cX12_init 153 = .ok (.putfield 66, 3) := by decide +kernel
theorem dX12_init_156 : decode cX12_init 156 = .ok (.aload_n 0, 1) := by decide +kernel
theorem dX12_init_157 : decode cX12_init 157 = .ok (.bipush 7, 2) := by decide +kernel
theorem dX12_init_159 : decode cX12_init 159 = .ok (.newarray .int, 2) := by decide +kernel
theorem dX12_init_161 : decode cX12_init 161 = .ok (.putfield 69, 3) := by decide +kernel
theorem dX12_init_164 : decode cX12_init 164 = .ok (.aload_n 0, 1) := by decide +kernel
theorem dX12_init_165 : decode cX12_init 165 = .ok (.bipush 7, 2) := by decide +kernel
theorem dX12_init_167 : decode cX12_init 167 = .ok (.newarray .int, 2) := by decide +kernel
theorem dX12_init_169 : decode cX12_init 169 = .ok (.putfield 72, 3) := by decide +kernel
theorem dX12_init_172 : decode cX12_init 172 = .ok (.aload_n 0, 1) := by decide +kernel
theorem dX12_init_173 : decode cX12_init 173 = .ok (.bipush 7, 2) := by decide +kernel
theorem dX12_init_175 : decode cX12_init 175 = .ok (.newarray .int, 2) := by decide +kernel
theorem dX12_init_177 : decode cX12_init 177 = .ok (.putfield 75, 3) := by decide +kernel
theorem dX12_init_180 : decode cX12_init 180 = .ok (.aload_n 0, 1) := by decide +kernel
theorem dX12_init_181 : decode cX12_init 181 = .ok (.bipush 7, 2) := by decide +kernel
theorem dX12_init_183 : decode cX12_init 183 = .ok (.newarray .int, 2) := by decide +kernel
theorem dX12_init_185 : decode cX12_init 185 = .ok (.putfield 78, 3) := by decide +kernel
theorem dX12_init_188 : decode cX12_init 188 = .ok (.aload_n 0, 1) := by decide +kernel
theorem dX12_init_189 : decode cX12_init 189 = .ok (.bipush 20, 2) := by decide +kernel
theorem dX12_init_191 : decode cX12_init 191 = .ok (.newarray .int, 2) := by decide +kernel
theorem dX12_init_193 : decode cX12_init 193 = .ok (.putfield 81, 3) := by decide +kernel
theorem dX12_init_196 : decode cX12_init 196 = .ok (.aload_n 0, 1) := by decide +kernel
theorem dX12_init_197 : decode cX12_init 197 = .ok (.bipush 6, 2) := by decide +kernel
theorem dX12_init_199 : decode cX12_init 199 = .ok (.newarray .int, 2) := by decide +kernel
theorem dX12_init_201 : decode cX12_init 201 = .ok (.putfield 84, 3) := by decide +kernel
theorem dX12_init_204 : decode cX12_init 204 = .ok (.aload_n 0, 1) := by decide +kernel
theorem dX12_init_205 : decode cX12_init 205 = .ok (.sipush 240, 3) := by decide +kernel
theorem dX12_init_208 : decode cX12_init 208 = .ok (.newarray .int, 2) := by decide +kernel
theorem dX12_init_210 : decode cX12_init 210 = .ok (.putfield 87, 3) := by decide +kernel
theorem dX12_init_213 : decode cX12_init 213 = .ok (.aload_n 0, 1) := by decide +kernel
theorem dX12_init_214 : decode cX12_init 214 = .ok (.sipush 240, 3) := by decide +kernel
theorem dX12_init_217 : decode cX12_init 217 = .ok (.newarray .int, 2) := by decide +kernel
theorem dX12_init_219 : decode cX12_init 219 = .ok (.putfield 90, 3) := by decide +kernel
theorem dX12_init_222 : decode cX12_init 222 = .ok (.aload_n 0, 1) := by decide +kernel
theorem dX12_init_223 : decode cX12_init 223 = .ok (.sipush 240, 3) := by decide +kernel
theorem dX12_init_226 : decode cX12_init 226 = .ok (.newarray .int, 2) := by decide +kernel
theorem dX12_init_228 : decode cX12_init 228 = .ok (.putfield 93, 3) := by decide +kernel
theorem dX12_init_231 : decode cX12_init 231 = .ok (.aload_n 0, 1) := by decide +kernel
theorem dX12_init_232 : decode cX12_init 232 = .ok (.sipush 240, 3) := by decide +kernel
theorem dX12_init_235 : decode cX12_init 235 = .ok (.newarray .int, 2) := by decide +kernel
theorem dX12_init_237 : decode cX12_init 237 = .ok (.putfield 96, 3) := by decide +kernel
theorem dX12_init_240 : decode cX12_init 240 = .ok (.aload_n 0, 1) := by decide +kernel
theorem dX12_init_241 : decode cX12_init 241 = .ok (.iconst 5, 1) := by decide +kernel
theorem dX12_init_242 : decode cX12_init 242 = .ok (.newarray .int, 2) := by decide +kernel
theorem dX12_init_244 : decode cX12_init 244 = .ok (.putfield 99, 3) := by decide +kernel
theorem dX12_init_247 : decode cX12_init 247 = .ok (.aload_n 0, 1) := by decide +kernel
theorem dX12_init_248 : decode cX12_init 248 = .ok (.bipush 40, 2) := by decide +kernel
theorem dX12_init_250 : decode cX12_init 250 = .ok (.newarray .int, 2) := by decide +kernel
theorem dX12_init_252 : decode cX12_init 252 = .ok (.putfield 102, 3) := by decide +kernel
theorem dX12_init_255 : decode cX12_init 255 = .ok (.aload_n 0, 1) := by decide +kernel
theorem dX12_init_256 : decode cX12_init 256 = .ok (.bipush 40, 2) := by decide +kernel
theorem dX12_init_258 : decode cX12_init 258 = .ok (.newarray .boolean, 2) := by decide +kernel
theorem dX12_init_260 : decode cX12_init 260 = .ok (.putfield 105, 3) := by decide +kernel
theorem dX12_init_263 : decode cX12_init 263 = .ok (.aload_n 0, 1) := by decide +kernel
theorem dX12_init_264 : decode cX12_init 264 = .ok (.bipush 14, 2) := by decide +kernel
theorem dX12_init_266 : decode cX12_init 266 = .ok (.newarray .int, 2) := by decide +kernel
theorem dX12_init_268 : decode cX12_init 268 = .ok (.putfield 108, 3) := by decide +kernel
theorem dX12_init_271 : decode cX12_init 271 = .ok (.aload_n 0, 1) := by decide +kernel
theorem dX12_init_272 : decode cX12_init 272 = .ok (.bipush 14, 2) := by decide +kernel
theorem dX12_init_274 : decode cX12_init 274 = .ok (.newarray .int, 2) := by decide +kernel
theorem dX12_init_276 : decode cX12_init 276 = .ok (.putfield 111, 3) := by decide +kernel
theorem dX12_init_279 : decode cX12_init 279 = .ok (.aload_n 0, 1) := by decide +kernel
theorem dX12_init_280 : decode cX12_init 280 = .ok (.bipush 14, 2) := by decide +kernel
theorem dX12_init_282 : decode cX12_init 282 = .ok (.newarray .int, 2) := by decide +kernel
theorem dX12_init_284 : decode cX12_init 284 = .ok (.putfield 114, 3) := by decide +kernel
theorem dX12_init_287 : decode cX12_init 287 = .ok (.aload_n 0, 1) := by decide +kernel
theorem dX12_init_288 : decode cX12_init 288 = .ok (.bipush 56, 2) := by decide +kernel
theorem dX12_init_290 : decode cX12_init 290 = .ok (.newarray .int, 2) := by decide +kernel
theorem dX12_init_292 : decode cX12_init 292 = .ok (.putfield 117, 3) := by decide +kernel
theorem dX12_init_295 : decode cX12_init 295 = .ok (.aload_n 0, 1) := by decide +kernel
theorem dX12_init_296 : decode cX12_init 296 = .ok (.sipush 224, 3) := by decide +kernel
theorem dX12_init_299 : decode cX12_init 299 = .ok (.newarray .int, 2) := by decide +kernel
theorem dX12_init_301 : decode cX12_init 301 = .ok (.putfield 120, 3) := by decide +kernel
theorem dX12_init_304 : decode cX12_init 304 = .ok (.aload_n 0, 1) := by decide +kernel
theorem dX12_init_305 : decode cX12_init 305 = .ok (.iconst 4, 1) := by decide +kernel
theorem dX12_init_306 : decode cX12_init 306 = .ok (.newarray .boolean, 2) := by decide +kernel
theorem dX12_init_308 : decode cX12_init 308 = .ok (.putfield 123, 3) := by decide +kernel
theorem dX12_init_311 : decode cX12_init 311 = .ok (.aload_n 0, 1) := by decide +kernel
theorem dX12_init_312 : decode cX12_init 312 = .ok (.sipush 1891, 3) := by decide +kernel
theorem dX12_init_315 : decode cX12_init 315 = .ok (.newarray .boolean, 2) := by decide +kernel
theorem dX12_init_317 : decode cX12_init 317 = .ok (.putfield 126, 3) := by decide +kernel
theorem dX12_init_320 : decode cX12_init 320 = .ok (.aload_n 0, 1) := by decide +kernel
theorem dX12_init_321 : decode cX12_init 321 = .ok (.iconst 0, 1) := by decide +kernel
theorem dX12_init_322 : decode cX12_init 322 = .ok (.invokevirtual 129, 3) := by decide +kernel
theorem dX12_init_325 : decode cX12_init 325 = .ok (.return_, 1) := by decide +kernel
theorem dX12_thrown_0 : decode cX12_thrown 0 = .ok (.aload_n 0, 1) := by decide +kernel
theorem dX12_thrown_1 : decode cX12_thrown 1 = .ok (.getfield 133, 3) := by decide +kernel
theorem dX12_thrown_4 : decode cX12_thrown 4 = .ok (.ireturn, 1) := by decide +kernel
theorem dX12_within_0 : decode cX12_within 0 = .ok (.iload_n 0, 1) := by decide +kernel
theorem dX12_within_1 : decode cX12_within 1 = .ok (.iload_n 1, 1) := by decide +kernel
theorem dX12_within_2 : decode cX12_within 2 = .ok (.if_icmp .lt 12, 3) := by decide +kernel
theorem dX12_within_5 : decode cX12_within 5 = .ok (.iload_n 0, 1) := by decide +kernel
theorem dX12_within_6 : decode cX12_within 6 = .ok (.iload_n 2, 1) := by decide +kernel
theorem dX12_within_7 : decode cX12_within 7 = .ok (.if_icmp .gt 7, 3) := by decide +kernel
theorem dX12_within_10 : decode cX12_within 10 = .ok (.iconst 1, 1) := by decide +kernel
theorem dX12_within_11 : decode cX12_within 11 = .ok (.goto 4, 3) := by decide +kernel
theorem dX12_within_14 : decode cX12_within 14 = .ok (.iconst 0, 1) := by decide +kernel
theorem dX12_within_15 : decode cX12_within 15 = .ok (.ireturn, 1) := by decide +kernel
theorem dX12_between_0 : decode cX12_between 0 = .ok (.iload_n 0, 1) := by decide +kernel
theorem dX12_between_1 : decode cX12_between 1 = .ok (.iload_n 1, 1) := by decide +kernel
theorem dX12_between_2 : decode cX12_between 2 = .ok (.if_icmp .ge 7, 3) := by decide +kernel
theorem dX12_between_5 : decode cX12_between 5 = .ok (.iload_n 1, 1) := by decide +kernel
theorem dX12_between_6 : decode cX12_between 6 = .ok (.goto 13, 3) := by decide +kernel
theorem dX12_between_9 : decode cX12_between 9 = .ok (.iload_n 0, 1) := by decide +kernel
theorem dX12_between_10 : decode cX12_between 10 = .ok (.iload_n 2, 1) := by decide +kernel
theorem dX12_between_11 : decode cX12_between 11 = .ok (.if_icmp .le 7, 3) := by decide +kernel
theorem dX12_between_14 : decode cX12_between 14 = .ok (.iload_n 2, 1) := by decide +kernel
theorem dX12_between_15 : decode cX12_between 15 = .ok (.goto 4, 3) := by decide +kernel
theorem dX12_between_18 : decode cX12_between 18 = .ok (.iload_n 0, 1) := by decide +kernel
theorem dX12_between_19 : decode cX12_between 19 = .ok (.ireturn, 1) := by decide +kernel
theorem dX12_bits_0 : decode cX12_bits 0 = .ok (.iconst 0, 1) := by decide +kernel
theorem dX12_bits_1 : decode cX12_bits 1 = .ok (.istore_n 1, 1) := by decide +kernel
theorem dX12_bits_2 : decode cX12_bits 2 = .ok (.iconst 0, 1) := by decide +kernel
theorem dX12_bits_3 : decode cX12_bits 3 = .ok (.istore_n 2, 1) := by decide +kernel
theorem dX12_bits_4 : decode cX12_bits 4 = .ok (.iload_n 2, 1) := by decide +kernel
theorem dX12_bits_5 : decode cX12_bits 5 = .ok (.bipush 6, 2) := by decide +kernel
theorem dX12_bits_7 : decode cX12_bits 7 = .ok (.if_icmp .ge 17, 3) := by decide +kernel
theorem dX12_bits_10 : decode cX12_bits 10 = .ok (.iload_n 1, 1) := by decide +kernel
theorem dX12_bits_11 : decode cX12_bits 11 = .ok (.iload_n 0, 1) := by decide +kernel
theorem dX12_bits_12 : decode cX12_bits 12 = .ok (.iload_n 2, 1) := by decide +kernel
theorem dX12_bits_13 : decode cX12_bits 13 = .ok (.ishr, 1) := by decide +kernel
theorem dX12_bits_14 : decode cX12_bits 14 = .ok (.iconst 1, 1) := by decide +kernel
theorem dX12_bits_15 : decode cX12_bits 15 = .ok (.iand, 1) := by decide +kernel
theorem dX12_bits_16 : decode cX12_bits 16 = .ok (.iadd, 1) := by decide +kernel
theorem dX12_bits_17 : decode cX12_bits 17 = .ok (.istore_n 1, 1) := by decide +kernel
theorem dX12_bits_18 : decode cX12_bits 18 = .ok (.iinc 2 1, 3) := by decide +kernel
theorem dX12_bits_21 : decode cX12_bits 21 = .ok (.goto (-17), 3) := by decide +kernel
theorem dX12_bits_24 : decode cX12_bits 24 = .ok (.iload_n 1, 1) := by decide +kernel
theorem dX12_bits_25 : decode cX12_bits 25 = .ok (.ireturn, 1) := by decide +kernel
theorem dX12_feed_0 : decode cX12_feed 0 = .ok (.aload_n 0, 1) := by decide +kernel
theorem dX12_feed_1 : decode cX12_feed 1 = .ok (.iconst 0, 1) := by decide +kernel
theorem dX12_feed_2 : decode cX12_feed 2 = .ok (.putfield 133, 3) := by decide +kernel
theorem dX12_feed_5 : decode cX12_feed 5 = .ok (.iconst 0, 1) := by decide +kernel
theorem dX12_feed_6 : decode cX12_feed 6 = .ok (.istore 7, 2) := by decide +kernel
theorem dX12_feed_8 : decode cX12_feed 8 = .ok (.iload 7, 2) := by decide +kernel
theorem dX12_feed_10 : decode cX12_feed 10 = .ok (.bipush 24, 2) := by decide +kernel
theorem dX12_feed_12 : decode cX12_feed 12 = .ok (.if_icmp .ge 108, 3) := by decide +kernel
theorem dX12_feed_15 : decode cX12_feed 15 = .ok (.iload 7, 2) := by decide +kernel
theorem dX12_feed_17 : decode cX12_feed 17 = .ok (.bipush 8, 2) := by decide +kernel
theorem dX12_feed_19 : decode cX12_feed 19 = .ok (.if_icmp .ge 7, 3) := by decide +kernel
theorem dX12_feed_22 : decode cX12_feed 22 = .ok (.lload_n 1, 1) := by decide +kernel
theorem dX12_feed_23 : decode cX12_feed 23 = .ok (.goto 16, 3) := by decide +kernel
theorem dX12_feed_26 : decode cX12_feed 26 = .ok (.iload 7, 2) := by decide +kernel
theorem dX12_feed_28 : decode cX12_feed 28 = .ok (.bipush 16, 2) := by decide +kernel
theorem dX12_feed_30 : decode cX12_feed 30 = .ok (.if_icmp .ge 7, 3) := by decide +kernel
theorem dX12_feed_33 : decode cX12_feed 33 = .ok (.lload_n 3, 1) := by decide +kernel
theorem dX12_feed_34 : decode cX12_feed 34 = .ok (.goto 5, 3) := by decide +kernel
theorem dX12_feed_37 : decode cX12_feed 37 = .ok (.lload 5, 2) := by decide +kernel
theorem dX12_feed_39 : decode cX12_feed 39 = .ok (.lstore 8, 2) := by decide +kernel
theorem dX12_feed_41 : decode cX12_feed 41 = .ok (.lload 8, 2) := by decide +kernel
theorem dX12_feed_43 : decode cX12_feed 43 = .ok (.bipush 56, 2) := by decide +kernel
theorem dX12_feed_45 : decode cX12_feed 45 = .ok (.bipush 8, 2) := by decide +kernel
theorem dX12_feed_47 : decode cX12_feed 47 = .ok (.iload 7, 2) := by decide +kernel
theorem dX12_feed_49 : decode cX12_feed 49 = .ok (.bipush 7, 2) := by decide +kernel
theorem dX12_feed_51 : decode cX12_feed 51 = .ok (.iand, 1) := by decide +kernel
theorem dX12_feed_52 : decode cX12_feed 52 = .ok (.imul, 1) := by decide +kernel
theorem dX12_feed_53 : decode cX12_feed 53 = .ok (.isub, 1) := by decide +kernel
theorem dX12_feed_54 : decode cX12_feed 54 = .ok (.lushr, 1) := by decide +kernel
theorem dX12_feed_55 : decode cX12_feed 55 = .ok (.ldc2_w 137, 3) := by decide +kernel
theorem dX12_feed_58 : decode cX12_feed 58 = .ok (.land, 1) := by decide +kernel
theorem dX12_feed_59 : decode cX12_feed 59 = .ok (.l2i, 1) := by decide +kernel
theorem dX12_feed_60 : decode cX12_feed 60 = .ok (.istore 10, 2) := by decide +kernel
theorem dX12_feed_62 : decode cX12_feed 62 = .ok (.aload_n 0, 1) := by decide +kernel
theorem dX12_feed_63 : decode cX12_feed 63 = .ok (.getfield 139, 3) := by decide +kernel
theorem dX12_feed_66 : decode cX12_feed 66 = .ok (.sipush 1000, 3) := by decide +kernel
theorem dX12_feed_69 : decode cX12_feed 69 = .ok (.if_icmp .ge 45, 3) := by decide +kernel
theorem dX12_feed_72 : decode cX12_feed 72 = .ok (.iload 10, 2) := by decide +kernel
theorem dX12_feed_74 : decode cX12_feed 74 = .ok (.bipush 10, 2) := by decide +kernel
theorem dX12_feed_76 : decode cX12_feed 76 = .ok (.if_icmp .eq 17, 3) := by decide +kernel
theorem dX12_feed_79 : decode cX12_feed 79 = .ok (.iload 10, 2) := by decide +kernel
theorem dX12_feed_81 : decode cX12_feed 81 = .ok (.bipush 32, 2) := by decide +kernel
theorem dX12_feed_83 : decode cX12_feed 83 = .ok (.if_icmp .lt 31, 3) := by decide +kernel
theorem dX12_feed_86 : decode cX12_feed 86 = .ok (.iload 10, 2) := by decide +kernel
theorem dX12_feed_88 : decode cX12_feed 88 = .ok (.bipush 126, 2) := by decide +kernel
theorem dX12_feed_90 : decode cX12_feed 90 = .ok (.if_icmp .gt 24, 3) := by decide +kernel
theorem dX12_feed_93 : decode cX12_feed 93 = .ok (.aload_n 0, 1) := by decide +kernel
theorem dX12_feed_94 : decode cX12_feed 94 = .ok (.getfield 7, 3) := by decide +kernel
theorem dX12_feed_97 : decode cX12_feed 97 = .ok (.aload_n 0, 1) := by decide +kernel
theorem dX12_feed_98 : decode cX12_feed 98 = .ok (.getfield 139, 3) := by decide +kernel
theorem dX12_feed_101 : decode cX12_feed 101 = .ok (.iload 10, 2) := by decide +kernel
theorem dX12_feed_103 : decode cX12_feed 103 = .ok (.iastore, 1) := by decide +kernel
theorem dX12_feed_104 : decode cX12_feed 104 = .ok (.aload_n 0, 1) := by decide +kernel
theorem dX12_feed_105 : decode cX12_feed 105 = .ok (.dup, 1) := by decide +kernel
theorem dX12_feed_106 : decode cX12_feed 106 = .ok (.getfield 139, 3) := by decide +kernel
theorem dX12_feed_109 : decode cX12_feed 109 = .ok (.iconst 1, 1) := by decide +kernel
theorem dX12_feed_110 : decode cX12_feed 110 = .ok (.iadd, 1) := by decide +kernel
theorem dX12_feed_111 : decode cX12_feed 111 = .ok (.putfield 139, 3) := by decide +kernel
theorem dX12_feed_114 : decode cX12_feed 114 = .ok (.iinc 7 1, 3) := by decide +kernel
theorem dX12_feed_117 : decode cX12_feed 117 = .ok (.goto (-109), 3) := by decide +kernel
theorem dX12_feed_120 : decode cX12_feed 120 = .ok (.aload_n 0, 1) := by decide +kernel
theorem dX12_feed_121 : decode cX12_feed 121 = .ok (.getfield 139, 3) := by decide +kernel
theorem dX12_feed_124 : decode cX12_feed 124 = .ok (.ireturn, 1) := by decide +kernel
theorem dX12_signAt_0 : decode cX12_signAt 0 = .ok (.iload_n 1, 1) := by decide +kernel
theorem dX12_signAt_1 : decode cX12_signAt 1 = .ok (.aload_n 0, 1) := by decide +kernel
theorem dX12_signAt_2 : decode cX12_signAt 2 = .ok (.getfield 142, 3) := by decide +kernel
theorem dX12_signAt_5 : decode cX12_signAt 5 = .ok (.if_icmp .ge 12, 3) := by decide +kernel
theorem dX12_signAt_8 : decode cX12_signAt 8 = .ok (.aload_n 0, 1) := by decide +kernel
theorem dX12_signAt_9 : decode cX12_signAt 9 = .ok (.getfield 7, 3) := by decide +kernel
theorem dX12_signAt_12 : decode cX12_signAt 12 = .ok (.iload_n 1, 1) := by decide +kernel
theorem dX12_signAt_13 : decode cX12_signAt 13 = .ok (.iaload, 1) := by decide +kernel
theorem dX12_signAt_14 : decode cX12_signAt 14 = .ok (.goto 4, 3) := by decide +kernel
theorem dX12_signAt_17 : decode cX12_signAt 17 = .ok (.iconst 0, 1) := by decide +kernel
theorem dX12_signAt_18 : decode cX12_signAt 18 = .ok (.ireturn, 1) := by decide +kernel
theorem dX12_nextToken_0 : decode cX12_nextToken 0 = .ok (.aload_n 0, 1) := by decide +kernel
theorem dX12_nextToken_1 : decode cX12_nextToken 1 = .ok (.getfield 145, 3) := by decide +kernel
theorem dX12_nextToken_4 : decode cX12_nextToken 4 = .ok (.aload_n 0, 1) := by decide +kernel
theorem dX12_nextToken_5 : decode cX12_nextToken 5 = .ok (.getfield 142, 3) := by decide +kernel
theorem dX12_nextToken_8 : decode cX12_nextToken 8 = .ok (.if_icmp .ge 44, 3) := by decide +kernel
theorem dX12_nextToken_11 : decode cX12_nextToken 11 = .ok (.aload_n 0, 1) := by decide +kernel
theorem dX12_nextToken_12 : decode cX12_nextToken 12 = .ok (.getfield 7, 3) := by decide +kernel
theorem dX12_nextToken_15 : decode cX12_nextToken 15 = .ok (.aload_n 0, 1) := by decide +kernel
theorem dX12_nextToken_16 : decode cX12_nextToken 16 = .ok (.getfield 145, 3) := by decide +kernel
theorem dX12_nextToken_19 : decode cX12_nextToken 19 = .ok (.iaload, 1) := by decide +kernel
theorem dX12_nextToken_20 : decode cX12_nextToken 20 = .ok (.bipush 32, 2) := by decide +kernel
theorem dX12_nextToken_22 : decode cX12_nextToken 22 = .ok (.if_icmp .eq 17, 3) := by decide +kernel
theorem dX12_nextToken_25 : decode cX12_nextToken 25 = .ok (.aload_n 0, 1) := by decide +kernel
theorem dX12_nextToken_26 : decode cX12_nextToken 26 = .ok (.getfield 7, 3) := by decide +kernel
theorem dX12_nextToken_29 : decode cX12_nextToken 29 = .ok (.aload_n 0, 1) := by decide +kernel
theorem dX12_nextToken_30 : decode cX12_nextToken 30 = .ok (.getfield 145, 3) := by decide +kernel
theorem dX12_nextToken_33 : decode cX12_nextToken 33 = .ok (.iaload, 1) := by decide +kernel
theorem dX12_nextToken_34 : decode cX12_nextToken 34 = .ok (.bipush 10, 2) := by decide +kernel
theorem dX12_nextToken_36 : decode cX12_nextToken 36 = .ok (.if_icmp .ne 16, 3) := by decide +kernel
theorem dX12_nextToken_39 : decode cX12_nextToken 39 = .ok (.aload_n 0, 1) := by decide +kernel
theorem dX12_nextToken_40 : decode cX12_nextToken 40 = .ok (.dup, 1) := by decide +kernel
theorem dX12_nextToken_41 : decode cX12_nextToken 41 = .ok (.getfield 145, 3) := by decide +kernel
theorem dX12_nextToken_44 : decode cX12_nextToken 44 = .ok (.iconst 1, 1) := by decide +kernel
theorem dX12_nextToken_45 : decode cX12_nextToken 45 = .ok (.iadd, 1) := by decide +kernel
theorem dX12_nextToken_46 : decode cX12_nextToken 46 = .ok (.putfield 145, 3) := by decide +kernel
theorem dX12_nextToken_49 : decode cX12_nextToken 49 = .ok (.goto (-49), 3) := by decide +kernel
theorem dX12_nextToken_52 : decode cX12_nextToken 52 = .ok (.aload_n 0, 1) := by decide +kernel
theorem dX12_nextToken_53 : decode cX12_nextToken 53 = .ok (.aload_n 0, 1) := by decide +kernel
theorem dX12_nextToken_54 : decode cX12_nextToken 54 = .ok (.getfield 145, 3) := by decide +kernel
theorem dX12_nextToken_57 : decode cX12_nextToken 57 = .ok (.putfield 148, 3) := by decide +kernel
theorem dX12_nextToken_60 : decode cX12_nextToken 60 = .ok (.aload_n 0, 1) := by decide +kernel
theorem dX12_nextToken_61 : decode cX12_nextToken 61 = .ok (.lconst 0, 1) := by decide +kernel
theorem dX12_nextToken_62 : decode cX12_nextToken 62 = .ok (.putfield 151, 3) := by decide +kernel
theorem dX12_nextToken_65 : decode cX12_nextToken 65 = .ok (.aload_n 0, 1) := by decide +kernel
theorem dX12_nextToken_66 : decode cX12_nextToken 66 = .ok (.iconst 0, 1) := by decide +kernel
theorem dX12_nextToken_67 : decode cX12_nextToken 67 = .ok (.putfield 155, 3) := by decide +kernel
theorem dX12_nextToken_70 : decode cX12_nextToken 70 = .ok (.aload_n 0, 1) := by decide +kernel
theorem dX12_nextToken_71 : decode cX12_nextToken 71 = .ok (.getfield 145, 3) := by decide +kernel
theorem dX12_nextToken_74 : decode cX12_nextToken 74 = .ok (.aload_n 0, 1) := by decide +kernel
theorem dX12_nextToken_75 : decode cX12_nextToken 75 = .ok (.getfield 142, 3) := by decide +kernel
theorem dX12_nextToken_78 : decode cX12_nextToken 78 = .ok (.if_icmp .ne 9, 3) := by decide +kernel
theorem dX12_nextToken_81 : decode cX12_nextToken 81 = .ok (.aload_n 0, 1) := by decide +kernel
theorem dX12_nextToken_82 : decode cX12_nextToken 82 = .ok (.iconst 0, 1) := by decide +kernel
theorem dX12_nextToken_83 : decode cX12_nextToken 83 = .ok (.putfield 158, 3) := by decide +kernel
theorem dX12_nextToken_86 : decode cX12_nextToken 86 = .ok (.return_, 1) := by decide +kernel
theorem dX12_nextToken_87 : decode cX12_nextToken 87 = .ok (.aload_n 0, 1) := by decide +kernel
theorem dX12_nextToken_88 : decode cX12_nextToken 88 = .ok (.getfield 7, 3) := by decide +kernel
theorem dX12_nextToken_91 : decode cX12_nextToken 91 = .ok (.aload_n 0, 1) := by decide +kernel
theorem dX12_nextToken_92 : decode cX12_nextToken 92 = .ok (.getfield 145, 3) := by decide +kernel
theorem dX12_nextToken_95 : decode cX12_nextToken 95 = .ok (.iaload, 1) := by decide +kernel
theorem dX12_nextToken_96 : decode cX12_nextToken 96 = .ok (.istore_n 1, 1) := by decide +kernel
theorem dX12_nextToken_97 : decode cX12_nextToken 97 = .ok (.iload_n 1, 1) := by decide +kernel
theorem dX12_nextToken_98 : decode cX12_nextToken 98 = .ok (.bipush 97, 2) := by decide +kernel
theorem dX12_nextToken_100 : decode cX12_nextToken 100 = .ok (.if_icmp .lt 112, 3) := by decide +kernel
theorem dX12_nextToken_103 : decode cX12_nextToken 103 = .ok (.iload_n 1, 1) := by decide +kernel
theorem dX12_nextToken_104 : decode cX12_nextToken 104 = .ok (.bipush 122, 2) := by decide +kernel
theorem dX12_nextToken_106 : decode cX12_nextToken 106 = .ok (.if_icmp .gt 106, 3) := by decide +kernel
theorem dX12_nextToken_109 : decode cX12_nextToken 109 = .ok (.aload_n 0, 1) := by decide +kernel
theorem dX12_nextToken_110 : decode cX12_nextToken 110 = .ok (.aload_n 0, 1) := by decide +kernel
theorem dX12_nextToken_111 : decode cX12_nextToken 111 = .ok (.getfield 145, 3) := by decide +kernel
theorem dX12_nextToken_114 : decode cX12_nextToken 114 = .ok (.invokevirtual 161, 3) := by decide +kernel
theorem dX12_nextToken_117 : decode cX12_nextToken 117 = .ok (.bipush 97, 2) := by decide +kernel
theorem dX12_nextToken_119 : decode cX12_nextToken 119 = .ok (.if_icmp .lt 69, 3) := by decide +kernel
theorem dX12_nextToken_122 : decode cX12_nextToken 122 = .ok (.aload_n 0, 1) := by decide +kernel
theorem dX12_nextToken_123 : decode cX12_nextToken 123 = .ok (.aload_n 0, 1) := by decide +kernel
theorem dX12_nextToken_124 : decode cX12_nextToken 124 = .ok (.getfield 145, 3) := by decide +kernel
theorem dX12_nextToken_127 : decode cX12_nextToken 127 = .ok (.invokevirtual 161, 3) := by decide +kernel
theorem dX12_nextToken_130 : decode cX12_nextToken 130 = .ok (.bipush 122, 2) := by decide +kernel
theorem dX12_nextToken_132 : decode cX12_nextToken 132 = .ok (.if_icmp .gt 56, 3) := by decide +kernel
theorem dX12_nextToken_135 : decode cX12_nextToken 135 = .ok (.aload_n 0, 1) := by decide +kernel
theorem dX12_nextToken_136 : decode cX12_nextToken 136 = .ok (.getfield 145, 3) := by decide +kernel
theorem dX12_nextToken_139 : decode cX12_nextToken 139 = .ok (.aload_n 0, 1) := by decide +kernel
theorem dX12_nextToken_140 : decode cX12_nextToken 140 = .ok (.getfield 148, 3) := by decide +kernel
theorem dX12_nextToken_143 : decode cX12_nextToken 143 = .ok (.isub, 1) := by decide +kernel
theorem dX12_nextToken_144 : decode cX12_nextToken 144 = .ok (.bipush 8, 2) := by decide +kernel
theorem dX12_nextToken_146 : decode cX12_nextToken 146 = .ok (.if_icmp .ge 29, 3) := by decide +kernel
theorem dX12_nextToken_149 : decode cX12_nextToken 149 = .ok (.aload_n 0, 1) := by decide +kernel
theorem dX12_nextToken_150 : decode cX12_nextToken 150 = .ok (.aload_n 0, 1) := by decide +kernel
theorem dX12_nextToken_151 : decode cX12_nextToken 151 = .ok (.getfield 151, 3) := by decide +kernel
theorem dX12_nextToken_154 : decode cX12_nextToken 154 = .ok (.ldc2_w 165, 3) := by decide +kernel
theorem dX12_nextToken_157 : decode cX12_nextToken 157 = .ok (.lmul, 1) := by decide +kernel
theorem dX12_nextToken_158 : decode cX12_nextToken 158 = .ok (.aload_n 0, 1) := by decide +kernel
theorem dX12_nextToken_159 : decode cX12_nextToken 159 = .ok (.aload_n 0, 1) := by decide +kernel
theorem dX12_nextToken_160 : decode cX12_nextToken 160 = .ok (.getfield 145, 3) := by decide +kernel
theorem dX12_nextToken_163 : decode cX12_nextToken 163 = .ok (.invokevirtual 161, 3) := by decide +kernel
theorem dX12_nextToken_166 : decode cX12_nextToken 166 = .ok (.i2l, 1) := by decide +kernel
theorem dX12_nextToken_167 : decode cX12_nextToken 167 = .ok (.ladd, 1) := by decide +kernel
theorem dX12_nextToken_168 : decode cX12_nextToken 168 = .ok (.ldc2_w 167, 3) := by decide +kernel
theorem dX12_nextToken_171 : decode cX12_nextToken 171 = .ok (.lsub, 1) := by decide +kernel
theorem dX12_nextToken_172 : decode cX12_nextToken 172 = .ok (.putfield 151, 3) := by decide +kernel
theorem dX12_nextToken_175 : decode cX12_nextToken 175 = .ok (.aload_n 0, 1) := by decide +kernel
theorem dX12_nextToken_176 : decode cX12_nextToken 176 = .ok (.dup, 1) := by decide +kernel
theorem dX12_nextToken_177 : decode cX12_nextToken 177 = .ok (.getfield 145, 3) := by decide +kernel
theorem dX12_nextToken_180 : decode cX12_nextToken 180 = .ok (.iconst 1, 1) := by decide +kernel
theorem dX12_nextToken_181 : decode cX12_nextToken 181 = .ok (.iadd, 1) := by decide +kernel
theorem dX12_nextToken_182 : decode cX12_nextToken 182 = .ok (.putfield 145, 3) := by decide +kernel
theorem dX12_nextToken_185 : decode cX12_nextToken 185 = .ok (.goto (-76), 3) := by decide +kernel
theorem dX12_nextToken_188 : decode cX12_nextToken 188 = .ok (.aload_n 0, 1) := by decide +kernel
theorem dX12_nextToken_189 : decode cX12_nextToken 189 = .ok (.aload_n 0, 1) := by decide +kernel
theorem dX12_nextToken_190 : decode cX12_nextToken 190 = .ok (.getfield 145, 3) := by decide +kernel
theorem dX12_nextToken_193 : decode cX12_nextToken 193 = .ok (.aload_n 0, 1) := by decide +kernel
theorem dX12_nextToken_194 : decode cX12_nextToken 194 = .ok (.getfield 148, 3) := by decide +kernel
theorem dX12_nextToken_197 : decode cX12_nextToken 197 = .ok (.isub, 1) := by decide +kernel
theorem dX12_nextToken_198 : decode cX12_nextToken 198 = .ok (.bipush 8, 2) := by decide +kernel
theorem dX12_nextToken_200 : decode cX12_nextToken 200 = .ok (.if_icmp .le 7, 3) := by decide +kernel
theorem dX12_nextToken_203 : decode cX12_nextToken 203 = .ok (.iconst 4, 1) := by decide +kernel
theorem dX12_nextToken_204 : decode cX12_nextToken 204 = .ok (.goto 4, 3) := by decide +kernel
theorem dX12_nextToken_207 : decode cX12_nextToken 207 = .ok (.iconst 1, 1) := by decide +kernel
theorem dX12_nextToken_208 : decode cX12_nextToken 208 = .ok (.putfield 158, 3) := by decide +kernel
theorem dX12_nextToken_211 : decode cX12_nextToken 211 = .ok (.return_, 1) := by decide +kernel
theorem dX12_nextToken_212 : decode cX12_nextToken 212 = .ok (.iload_n 1, 1) := by decide +kernel
theorem dX12_nextToken_213 : decode cX12_nextToken 213 = .ok (.bipush 48, 2) := by decide +kernel
theorem dX12_nextToken_215 : decode cX12_nextToken 215 = .ok (.if_icmp .lt 107, 3) := by decide +kernel
theorem dX12_nextToken_218 : decode cX12_nextToken 218 = .ok (.iload_n 1, 1) := by decide +kernel
theorem dX12_nextToken_219 : decode cX12_nextToken 219 = .ok (.bipush 57, 2) := by decide +kernel
theorem dX12_nextToken_221 : decode cX12_nextToken 221 = .ok (.if_icmp .gt 101, 3) := by decide +kernel
theorem dX12_nextToken_224 : decode cX12_nextToken 224 = .ok (.aload_n 0, 1) := by decide +kernel
theorem dX12_nextToken_225 : decode cX12_nextToken 225 = .ok (.aload_n 0, 1) := by decide +kernel
theorem dX12_nextToken_226 : decode cX12_nextToken 226 = .ok (.getfield 145, 3) := by decide +kernel
theorem dX12_nextToken_229 : decode cX12_nextToken 229 = .ok (.invokevirtual 161, 3) := by decide +kernel
theorem dX12_nextToken_232 : decode cX12_nextToken 232 = .ok (.bipush 48, 2) := by decide +kernel
theorem dX12_nextToken_234 : decode cX12_nextToken 234 = .ok (.if_icmp .lt 65, 3) := by decide +kernel
theorem dX12_nextToken_237 : decode cX12_nextToken 237 = .ok (.aload_n 0, 1) := by decide +kernel
theorem dX12_nextToken_238 : decode cX12_nextToken 238 = .ok (.aload_n 0, 1) := by decide +kernel
theorem dX12_nextToken_239 : decode cX12_nextToken 239 = .ok (.getfield 145, 3) := by decide +kernel
theorem dX12_nextToken_242 : decode cX12_nextToken 242 = .ok (.invokevirtual 161, 3) := by decide +kernel
theorem dX12_nextToken_245 : decode cX12_nextToken 245 = .ok (.bipush 57, 2) := by decide +kernel
theorem dX12_nextToken_247 : decode cX12_nextToken 247 = .ok (.if_icmp .gt 52, 3) := by decide +kernel
theorem dX12_nextToken_250 : decode cX12_nextToken 250 = .ok (.aload_n 0, 1) := by decide +kernel
theorem dX12_nextToken_251 : decode cX12_nextToken 251 = .ok (.getfield 145, 3) := by decide +kernel
theorem dX12_nextToken_254 : decode cX12_nextToken 254 = .ok (.aload_n 0, 1) := by decide +kernel
theorem dX12_nextToken_255 : decode cX12_nextToken 255 = .ok (.getfield 148, 3) := by decide +kernel
theorem dX12_nextToken_258 : decode cX12_nextToken 258 = .ok (.isub, 1) := by decide +kernel
theorem dX12_nextToken_259 : decode cX12_nextToken 259 = .ok (.iconst 4, 1) := by decide +kernel
theorem dX12_nextToken_260 : decode cX12_nextToken 260 = .ok (.if_icmp .ge 26, 3) := by decide +kernel
theorem dX12_nextToken_263 : decode cX12_nextToken 263 = .ok (.aload_n 0, 1) := by decide +kernel
theorem dX12_nextToken_264 : decode cX12_nextToken 264 = .ok (.aload_n 0, 1) := by decide +kernel
theorem dX12_nextToken_265 : decode cX12_nextToken 265 = .ok (.getfield 155, 3) := by decide +kernel
theorem dX12_nextToken_268 : decode cX12_nextToken 268 = .ok (.bipush 10, 2) := by decide +kernel
theorem dX12_nextToken_270 : decode cX12_nextToken 270 = .ok (.imul, 1) := by decide +kernel
theorem dX12_nextToken_271 : decode cX12_nextToken 271 = .ok (.aload_n 0, 1) := by decide +kernel
theorem dX12_nextToken_272 : decode cX12_nextToken 272 = .ok (.aload_n 0, 1) := by decide +kernel
theorem dX12_nextToken_273 : decode cX12_nextToken 273 = .ok (.getfield 145, 3) := by decide +kernel
theorem dX12_nextToken_276 : decode cX12_nextToken 276 = .ok (.invokevirtual 161, 3) := by decide +kernel
theorem dX12_nextToken_279 : decode cX12_nextToken 279 = .ok (.iadd, 1) := by decide +kernel
theorem dX12_nextToken_280 : decode cX12_nextToken 280 = .ok (.bipush 48, 2) := by decide +kernel
theorem dX12_nextToken_282 : decode cX12_nextToken 282 = .ok (.isub, 1) := by decide +kernel
theorem dX12_nextToken_283 : decode cX12_nextToken 283 = .ok (.putfield 155, 3) := by decide +kernel
theorem dX12_nextToken_286 : decode cX12_nextToken 286 = .ok (.aload_n 0, 1) := by decide +kernel
theorem dX12_nextToken_287 : decode cX12_nextToken 287 = .ok (.dup, 1) := by decide +kernel
theorem dX12_nextToken_288 : decode cX12_nextToken 288 = .ok (.getfield 145, 3) := by decide +kernel
theorem dX12_nextToken_291 : decode cX12_nextToken 291 = .ok (.iconst 1, 1) := by decide +kernel
theorem dX12_nextToken_292 : decode cX12_nextToken 292 = .ok (.iadd, 1) := by decide +kernel
theorem dX12_nextToken_293 : decode cX12_nextToken 293 = .ok (.putfield 145, 3) := by decide +kernel
theorem dX12_nextToken_296 : decode cX12_nextToken 296 = .ok (.goto (-72), 3) := by decide +kernel
theorem dX12_nextToken_299 : decode cX12_nextToken 299 = .ok (.aload_n 0, 1) := by decide +kernel
theorem dX12_nextToken_300 : decode cX12_nextToken 300 = .ok (.aload_n 0, 1) := by decide +kernel
theorem dX12_nextToken_301 : decode cX12_nextToken 301 = .ok (.getfield 145, 3) := by decide +kernel
theorem dX12_nextToken_304 : decode cX12_nextToken 304 = .ok (.aload_n 0, 1) := by decide +kernel
theorem dX12_nextToken_305 : decode cX12_nextToken 305 = .ok (.getfield 148, 3) := by decide +kernel
theorem dX12_nextToken_308 : decode cX12_nextToken 308 = .ok (.isub, 1) := by decide +kernel
theorem dX12_nextToken_309 : decode cX12_nextToken 309 = .ok (.iconst 4, 1) := by decide +kernel
theorem dX12_nextToken_310 : decode cX12_nextToken 310 = .ok (.if_icmp .le 7, 3) := by decide +kernel
theorem dX12_nextToken_313 : decode cX12_nextToken 313 = .ok (.iconst 4, 1) := by decide +kernel
theorem dX12_nextToken_314 : decode cX12_nextToken 314 = .ok (.goto 4, 3) := by decide +kernel
theorem dX12_nextToken_317 : decode cX12_nextToken 317 = .ok (.iconst 2, 1) := by decide +kernel
theorem dX12_nextToken_318 : decode cX12_nextToken 318 = .ok (.putfield 158, 3) := by decide +kernel
theorem dX12_nextToken_321 : decode cX12_nextToken 321 = .ok (.return_, 1) := by decide +kernel
theorem dX12_nextToken_322 : decode cX12_nextToken 322 = .ok (.aload_n 0, 1) := by decide +kernel
theorem dX12_nextToken_323 : decode cX12_nextToken 323 = .ok (.dup, 1) := by decide +kernel
theorem dX12_nextToken_324 : decode cX12_nextToken 324 = .ok (.getfield 145, 3) := by decide +kernel
theorem dX12_nextToken_327 : decode cX12_nextToken 327 = .ok (.iconst 1, 1) := by decide +kernel
theorem dX12_nextToken_328 : decode cX12_nextToken 328 = .ok (.iadd, 1) := by decide +kernel
theorem dX12_nextToken_329 : decode cX12_nextToken 329 = .ok (.putfield 145, 3) := by decide +kernel
theorem dX12_nextToken_332 : decode cX12_nextToken 332 = .ok (.aload_n 0, 1) := by decide +kernel
theorem dX12_nextToken_333 : decode cX12_nextToken 333 = .ok (.iload_n 1, 1) := by decide +kernel
theorem dX12_nextToken_334 : decode cX12_nextToken 334 = .ok (.bipush 40, 2) := by decide +kernel
theorem dX12_nextToken_336 : decode cX12_nextToken 336 = .ok (.if_icmp .lt 9, 3) := by decide +kernel
theorem dX12_nextToken_339 : decode cX12_nextToken 339 = .ok (.iload_n 1, 1) := by decide +kernel
theorem dX12_nextToken_340 : decode cX12_nextToken 340 = .ok (.bipush 43, 2) := by decide +kernel
theorem dX12_nextToken_342 : decode cX12_nextToken 342 = .ok (.if_icmp .le 21, 3) := by decide +kernel
theorem dX12_nextToken_345 : decode cX12_nextToken 345 = .ok (.iload_n 1, 1) := by decide +kernel
theorem dX12_nextToken_346 : decode cX12_nextToken 346 = .ok (.bipush 45, 2) := by decide +kernel
theorem dX12_nextToken_348 : decode cX12_nextToken 348 = .ok (.if_icmp .eq 15, 3) := by decide +kernel
theorem dX12_nextToken_351 : decode cX12_nextToken 351 = .ok (.iload_n 1, 1) := by decide +kernel
theorem dX12_nextToken_352 : decode cX12_nextToken 352 = .ok (.bipush 59, 2) := by decide +kernel
theorem dX12_nextToken_354 : decode cX12_nextToken 354 = .ok (.if_icmp .lt 13, 3) := by decide +kernel
theorem dX12_nextToken_357 : decode cX12_nextToken 357 = .ok (.iload_n 1, 1) := by decide +kernel
theorem dX12_nextToken_358 : decode cX12_nextToken 358 = .ok (.bipush 61, 2) := by decide +kernel
theorem dX12_nextToken_360 : decode cX12_nextToken 360 = .ok (.if_icmp .gt 7, 3) := by decide +kernel
theorem dX12_nextToken_363 : decode cX12_nextToken 363 = .ok (.iconst 3, 1) := by decide +kernel
theorem dX12_nextToken_364 : decode cX12_nextToken 364 = .ok (.goto 4, 3) := by decide +kernel
theorem dX12_nextToken_367 : decode cX12_nextToken 367 = .ok (.iconst 4, 1) := by decide +kernel
theorem dX12_nextToken_368 : decode cX12_nextToken 368 = .ok (.putfield 158, 3) := by decide +kernel
theorem dX12_nextToken_371 : decode cX12_nextToken 371 = .ok (.return_, 1) := by decide +kernel
theorem dX12_isWord_0 : decode cX12_isWord 0 = .ok (.aload_n 0, 1) := by decide +kernel
theorem dX12_isWord_1 : decode cX12_isWord 1 = .ok (.getfield 158, 3) := by decide +kernel
theorem dX12_isWord_4 : decode cX12_isWord 4 = .ok (.iconst 1, 1) := by decide +kernel
theorem dX12_isWord_5 : decode cX12_isWord 5 = .ok (.if_icmp .ne 16, 3) := by decide +kernel
theorem dX12_isWord_8 : decode cX12_isWord 8 = .ok (.aload_n 0, 1) := by decide +kernel
theorem dX12_isWord_9 : decode cX12_isWord 9 = .ok (.getfield 151, 3) := by decide +kernel
theorem dX12_isWord_12 : decode cX12_isWord 12 = .ok (.lload_n 1, 1) := by decide +kernel
theorem dX12_isWord_13 : decode cX12_isWord 13 = .ok (.lcmp, 1) := by decide +kernel
theorem dX12_isWord_14 : decode cX12_isWord 14 = .ok (.ifCond .ne 7, 3) := by decide +kernel
theorem dX12_isWord_17 : decode cX12_isWord 17 = .ok (.iconst 1, 1) := by decide +kernel
theorem dX12_isWord_18 : decode cX12_isWord 18 = .ok (.goto 4, 3) := by decide +kernel
theorem dX12_isWord_21 : decode cX12_isWord 21 = .ok (.iconst 0, 1) := by decide +kernel
theorem dX12_isWord_22 : decode cX12_isWord 22 = .ok (.ireturn, 1) := by decide +kernel
theorem dX12_isSign_0 : decode cX12_isSign 0 = .ok (.aload_n 0, 1) := by decide +kernel
theorem dX12_isSign_1 : decode cX12_isSign 1 = .ok (.getfield 158, 3) := by decide +kernel
theorem dX12_isSign_4 : decode cX12_isSign 4 = .ok (.iconst 3, 1) := by decide +kernel
theorem dX12_isSign_5 : decode cX12_isSign 5 = .ok (.if_icmp .ne 20, 3) := by decide +kernel
theorem dX12_isSign_8 : decode cX12_isSign 8 = .ok (.aload_n 0, 1) := by decide +kernel
theorem dX12_isSign_9 : decode cX12_isSign 9 = .ok (.getfield 7, 3) := by decide +kernel
theorem dX12_isSign_12 : decode cX12_isSign 12 = .ok (.aload_n 0, 1) := by decide +kernel
theorem dX12_isSign_13 : decode cX12_isSign 13 = .ok (.getfield 148, 3) := by decide +kernel
theorem dX12_isSign_16 : decode cX12_isSign 16 = .ok (.iaload, 1) := by decide +kernel
theorem dX12_isSign_17 : decode cX12_isSign 17 = .ok (.iload_n 1, 1) := by decide +kernel
theorem dX12_isSign_18 : decode cX12_isSign 18 = .ok (.if_icmp .ne 7, 3) := by decide +kernel
theorem dX12_isSign_21 : decode cX12_isSign 21 = .ok (.iconst 1, 1) := by decide +kernel
theorem dX12_isSign_22 : decode cX12_isSign 22 = .ok (.goto 4, 3) := by decide +kernel
theorem dX12_isSign_25 : decode cX12_isSign 25 = .ok (.iconst 0, 1) := by decide +kernel
theorem dX12_isSign_26 : decode cX12_isSign 26 = .ok (.ireturn, 1) := by decide +kernel
theorem dX12_fails_0 : decode cX12_fails 0 = .ok (.aload_n 0, 1) := by decide +kernel
theorem dX12_fails_1 : decode cX12_fails 1 = .ok (.iload_n 1, 1) := by decide +kernel
theorem dX12_fails_2 : decode cX12_fails 2 = .ok (.bipush 16, 2) := by decide +kernel
theorem dX12_fails_4 : decode cX12_fails 4 = .ok (.aload_n 0, 1) := by decide +kernel
theorem dX12_fails_5 : decode cX12_fails 5 = .ok (.getfield 148, 3) := by decide +kernel
theorem dX12_fails_8 : decode cX12_fails 8 = .ok (.imul, 1) := by decide +kernel
theorem dX12_fails_9 : decode cX12_fails 9 = .ok (.iadd, 1) := by decide +kernel
theorem dX12_fails_10 : decode cX12_fails 10 = .ok (.putfield 169, 3) := by decide +kernel
theorem dX12_fails_13 : decode cX12_fails 13 = .ok (.iconst 0, 1) := by decide +kernel
theorem dX12_fails_14 : decode cX12_fails 14 = .ok (.ireturn, 1) := by decide +kernel
theorem dX12_usual_0 : decode cX12_usual 0 = .ok (.aload_n 0, 1) := by decide +kernel
theorem dX12_usual_1 : decode cX12_usual 1 = .ok (.getfield 13, 3) := by decide +kernel
theorem dX12_usual_4 : decode cX12_usual 4 = .ok (.iconst 3, 1) := by decide +kernel
theorem dX12_usual_5 : decode cX12_usual 5 = .ok (.iload_n 1, 1) := by decide +kernel
theorem dX12_usual_6 : decode cX12_usual 6 = .ok (.imul, 1) := by decide +kernel
theorem dX12_usual_7 : decode cX12_usual 7 = .ok (.iconst 0, 1) := by decide +kernel
theorem dX12_usual_8 : decode cX12_usual 8 = .ok (.iadd, 1) := by decide +kernel
theorem dX12_usual_9 : decode cX12_usual 9 = .ok (.iconst 0, 1) := by decide +kernel
theorem dX12_usual_10 : decode cX12_usual 10 = .ok (.iastore, 1) := by decide +kernel
theorem dX12_usual_11 : decode cX12_usual 11 = .ok (.aload_n 0, 1) := by decide +kernel
theorem dX12_usual_12 : decode cX12_usual 12 = .ok (.getfield 13, 3) := by decide +kernel
theorem dX12_usual_15 : decode cX12_usual 15 = .ok (.iconst 3, 1) := by decide +kernel
theorem dX12_usual_16 : decode cX12_usual 16 = .ok (.iload_n 1, 1) := by decide +kernel
theorem dX12_usual_17 : decode cX12_usual 17 = .ok (.imul, 1) := by decide +kernel
theorem dX12_usual_18 : decode cX12_usual 18 = .ok (.iconst 1, 1) := by decide +kernel
theorem dX12_usual_19 : decode cX12_usual 19 = .ok (.iadd, 1) := by decide +kernel
theorem dX12_usual_20 : decode cX12_usual 20 = .ok (.iconst 0, 1) := by decide +kernel
theorem dX12_usual_21 : decode cX12_usual 21 = .ok (.iastore, 1) := by decide +kernel
theorem dX12_usual_22 : decode cX12_usual 22 = .ok (.aload_n 0, 1) := by decide +kernel
theorem dX12_usual_23 : decode cX12_usual 23 = .ok (.getfield 13, 3) := by decide +kernel
theorem dX12_usual_26 : decode cX12_usual 26 = .ok (.iconst 3, 1) := by decide +kernel
theorem dX12_usual_27 : decode cX12_usual 27 = .ok (.iload_n 1, 1) := by decide +kernel
theorem dX12_usual_28 : decode cX12_usual 28 = .ok (.imul, 1) := by decide +kernel
theorem dX12_usual_29 : decode cX12_usual 29 = .ok (.iconst 2, 1) := by decide +kernel
theorem dX12_usual_30 : decode cX12_usual 30 = .ok (.iadd, 1) := by decide +kernel
theorem dX12_usual_31 : decode cX12_usual 31 = .ok (.iconst 2, 1) := by decide +kernel
theorem dX12_usual_32 : decode cX12_usual 32 = .ok (.iastore, 1) := by decide +kernel
theorem dX12_usual_33 : decode cX12_usual 33 = .ok (.return_, 1) := by decide +kernel
theorem dX12_puts_0 : decode cX12_puts 0 = .ok (.aload_n 0, 1) := by decide +kernel
theorem dX12_puts_1 : decode cX12_puts 1 = .ok (.getfield 44, 3) := by decide +kernel
theorem dX12_puts_4 : decode cX12_puts 4 = .ok (.aload_n 0, 1) := by decide +kernel
theorem dX12_puts_5 : decode cX12_puts 5 = .ok (.getfield 172, 3) := by decide +kernel
theorem dX12_puts_8 : decode cX12_puts 8 = .ok (.iload_n 1, 1) := by decide +kernel
theorem dX12_puts_9 : decode cX12_puts 9 = .ok (.iastore, 1) := by decide +kernel
theorem dX12_puts_10 : decode cX12_puts 10 = .ok (.aload_n 0, 1) := by decide +kernel
theorem dX12_puts_11 : decode cX12_puts 11 = .ok (.dup, 1) := by decide +kernel
theorem dX12_puts_12 : decode cX12_puts 12 = .ok (.getfield 172, 3) := by decide +kernel
theorem dX12_puts_15 : decode cX12_puts 15 = .ok (.iconst 1, 1) := by decide +kernel
theorem dX12_puts_16 : decode cX12_puts 16 = .ok (.iadd, 1) := by decide +kernel
theorem dX12_puts_17 : decode cX12_puts 17 = .ok (.putfield 172, 3) := by decide +kernel
theorem dX12_puts_20 : decode cX12_puts 20 = .ok (.return_, 1) := by decide +kernel
theorem dX12_fact_0 : decode cX12_fact 0 = .ok (.aload_n 0, 1) := by decide +kernel
theorem dX12_fact_1 : decode cX12_fact 1 = .ok (.getfield 158, 3) := by decide +kernel
theorem dX12_fact_4 : decode cX12_fact 4 = .ok (.iconst 1, 1) := by decide +kernel
theorem dX12_fact_5 : decode cX12_fact 5 = .ok (.if_icmp .eq 5, 3) := by decide +kernel
theorem dX12_fact_8 : decode cX12_fact 8 = .ok (.iconst 0, 1) := by decide +kernel
theorem dX12_fact_9 : decode cX12_fact 9 = .ok (.ireturn, 1) := by decide +kernel
theorem dX12_fact_10 : decode cX12_fact 10 = .ok (.aload_n 0, 1) := by decide +kernel
theorem dX12_fact_11 : decode cX12_fact 11 = .ok (.getfield 151, 3) := by decide +kernel
theorem dX12_fact_14 : decode cX12_fact 14 = .ok (.ldc2_w 175, 3) := by decide +kernel
theorem dX12_fact_17 : decode cX12_fact 17 = .ok (.lcmp, 1) := by decide +kernel
theorem dX12_fact_18 : decode cX12_fact 18 = .ok (.ifCond .ne 5, 3) := by decide +kernel
theorem dX12_fact_21 : decode cX12_fact 21 = .ok (.iconst 1, 1) := by decide +kernel
theorem dX12_fact_22 : decode cX12_fact 22 = .ok (.ireturn, 1) := by decide +kernel
theorem dX12_fact_23 : decode cX12_fact 23 = .ok (.aload_n 0, 1) := by decide +kernel
theorem dX12_fact_24 : decode cX12_fact 24 = .ok (.getfield 151, 3) := by decide +kernel
theorem dX12_fact_27 : decode cX12_fact 27 = .ok (.ldc2_w 177, 3) := by decide +kernel
theorem dX12_fact_30 : decode cX12_fact 30 = .ok (.lcmp, 1) := by decide +kernel
theorem dX12_fact_31 : decode cX12_fact 31 = .ok (.ifCond .ne 5, 3) := by decide +kernel
theorem dX12_fact_34 : decode cX12_fact 34 = .ok (.iconst 2, 1) := by decide +kernel
theorem dX12_fact_35 : decode cX12_fact 35 = .ok (.ireturn, 1) := by decide +kernel
theorem dX12_fact_36 : decode cX12_fact 36 = .ok (.aload_n 0, 1) := by decide +kernel
theorem dX12_fact_37 : decode cX12_fact 37 = .ok (.getfield 151, 3) := by decide +kernel
theorem dX12_fact_40 : decode cX12_fact 40 = .ok (.ldc2_w 179, 3) := by decide +kernel
theorem dX12_fact_43 : decode cX12_fact 43 = .ok (.lcmp, 1) := by decide +kernel
theorem dX12_fact_44 : decode cX12_fact 44 = .ok (.ifCond .ne 7, 3) := by decide +kernel
theorem dX12_fact_47 : decode cX12_fact 47 = .ok (.iconst 3, 1) := by decide +kernel
theorem dX12_fact_48 : decode cX12_fact 48 = .ok (.goto 19, 3) := by decide +kernel
theorem dX12_fact_51 : decode cX12_fact 51 = .ok (.aload_n 0, 1) := by decide +kernel
theorem dX12_fact_52 : decode cX12_fact 52 = .ok (.getfield 151, 3) := by decide +kernel
theorem dX12_fact_55 : decode cX12_fact 55 = .ok (.ldc2_w 181, 3) := by decide +kernel
theorem dX12_fact_58 : decode cX12_fact 58 = .ok (.lcmp, 1) := by decide +kernel
theorem dX12_fact_59 : decode cX12_fact 59 = .ok (.ifCond .ne 7, 3) := by decide +kernel
theorem dX12_fact_62 : decode cX12_fact 62 = .ok (.iconst 4, 1) := by decide +kernel
theorem dX12_fact_63 : decode cX12_fact 63 = .ok (.goto 4, 3) := by decide +kernel
theorem dX12_fact_66 : decode cX12_fact 66 = .ok (.iconst 0, 1) := by decide +kernel
theorem dX12_fact_67 : decode cX12_fact 67 = .ok (.ireturn, 1) := by decide +kernel
theorem dX12_reads_0 : decode cX12_reads 0 = .ok (.iconst 0, 1) := by decide +kernel
theorem dX12_reads_1 : decode cX12_reads 1 = .ok (.istore_n 1, 1) := by decide +kernel
theorem dX12_reads_2 : decode cX12_reads 2 = .ok (.iconst 1, 1) := by decide +kernel
theorem dX12_reads_3 : decode cX12_reads 3 = .ok (.istore_n 2, 1) := by decide +kernel
theorem dX12_reads_4 : decode cX12_reads 4 = .ok (.aload_n 0, 1) := by decide +kernel
theorem dX12_reads_5 : decode cX12_reads 5 = .ok (.getfield 50, 3) := by decide +kernel
theorem dX12_reads_8 : decode cX12_reads 8 = .ok (.iconst 0, 1) := by decide +kernel
theorem dX12_reads_9 : decode cX12_reads 9 = .ok (.iconst 0, 1) := by decide +kernel
theorem dX12_reads_10 : decode cX12_reads 10 = .ok (.bastore, 1) := by decide +kernel
theorem dX12_reads_11 : decode cX12_reads 11 = .ok (.iload_n 2, 1) := by decide +kernel
theorem dX12_reads_12 : decode cX12_reads 12 = .ok (.ifCond .eq 167, 3) := by decide +kernel
theorem dX12_reads_15 : decode cX12_reads 15 = .ok (.aload_n 0, 1) := by decide +kernel
theorem dX12_reads_16 : decode cX12_reads 16 = .ok (.invokevirtual 183, 3) := by decide +kernel
theorem dX12_reads_19 : decode cX12_reads 19 = .ok (.istore_n 3, 1) := by decide +kernel
theorem dX12_reads_20 : decode cX12_reads 20 = .ok (.aload_n 0, 1) := by decide +kernel
theorem dX12_reads_21 : decode cX12_reads 21 = .ok (.ldc2_w 187, 3) := by decide +kernel
theorem dX12_reads_24 : decode cX12_reads 24 = .ok (.invokevirtual 189, 3) := by decide +kernel
theorem dX12_reads_27 : decode cX12_reads 27 = .ok (.istore 4, 2) := by decide +kernel
theorem dX12_reads_29 : decode cX12_reads 29 = .ok (.aload_n 0, 1) := by decide +kernel
theorem dX12_reads_30 : decode cX12_reads 30 = .ok (.bipush 40, 2) := by decide +kernel
theorem dX12_reads_32 : decode cX12_reads 32 = .ok (.invokevirtual 193, 3) := by decide +kernel
theorem dX12_reads_35 : decode cX12_reads 35 = .ok (.istore 5, 2) := by decide +kernel
theorem dX12_reads_37 : decode cX12_reads 37 = .ok (.iload_n 3, 1) := by decide +kernel
theorem dX12_reads_38 : decode cX12_reads 38 = .ok (.ifCond .ne 27, 3) := by decide +kernel
theorem dX12_reads_41 : decode cX12_reads 41 = .ok (.iload 4, 2) := by decide +kernel
theorem dX12_reads_43 : decode cX12_reads 43 = .ok (.ifCond .ne 22, 3) := by decide +kernel
theorem dX12_reads_46 : decode cX12_reads 46 = .ok (.iload 5, 2) := by decide +kernel
theorem dX12_reads_48 : decode cX12_reads 48 = .ok (.ifCond .ne 17, 3) := by decide +kernel
theorem dX12_reads_51 : decode cX12_reads 51 = .ok (.aload_n 0, 1) := by decide +kernel
theorem dX12_reads_52 : decode cX12_reads 52 = .ok (.getfield 158, 3) := by decide +kernel
theorem dX12_reads_55 : decode cX12_reads 55 = .ok (.iconst 2, 1) := by decide +kernel
theorem dX12_reads_56 : decode cX12_reads 56 = .ok (.if_icmp .eq 9, 3) := by decide +kernel
theorem dX12_reads_59 : decode cX12_reads 59 = .ok (.aload_n 0, 1) := by decide +kernel
theorem dX12_reads_60 : decode cX12_reads 60 = .ok (.iconst 1, 1) := by decide +kernel
theorem dX12_reads_61 : decode cX12_reads 61 = .ok (.invokevirtual 197, 3) := by decide +kernel
theorem dX12_reads_64 : decode cX12_reads 64 = .ok (.ireturn, 1) := by decide +kernel
theorem dX12_reads_65 : decode cX12_reads 65 = .ok (.iload_n 1, 1) := by decide +kernel
theorem dX12_reads_66 : decode cX12_reads 66 = .ok (.iconst 5, 1) := by decide +kernel
theorem dX12_reads_67 : decode cX12_reads 67 = .ok (.if_icmp .ne 9, 3) := by decide +kernel
theorem dX12_reads_70 : decode cX12_reads 70 = .ok (.aload_n 0, 1) := by decide +kernel
theorem dX12_reads_71 : decode cX12_reads 71 = .ok (.iconst 5, 1) := by decide +kernel
theorem dX12_reads_72 : decode cX12_reads 72 = .ok (.invokevirtual 197, 3) := by decide +kernel
theorem dX12_reads_75 : decode cX12_reads 75 = .ok (.ireturn, 1) := by decide +kernel
theorem dX12_reads_76 : decode cX12_reads 76 = .ok (.iload 4, 2) := by decide +kernel
theorem dX12_reads_78 : decode cX12_reads 78 = .ok (.ifCond .ne 8, 3) := by decide +kernel
theorem dX12_reads_81 : decode cX12_reads 81 = .ok (.iload 5, 2) := by decide +kernel
theorem dX12_reads_83 : decode cX12_reads 83 = .ok (.ifCond .eq 48, 3) := by decide +kernel
theorem dX12_reads_86 : decode cX12_reads 86 = .ok (.aload_n 0, 1) := by decide +kernel
theorem dX12_reads_87 : decode cX12_reads 87 = .ok (.iload 4, 2) := by decide +kernel
theorem dX12_reads_89 : decode cX12_reads 89 = .ok (.ifCond .eq 8, 3) := by decide +kernel
theorem dX12_reads_92 : decode cX12_reads 92 = .ok (.bipush 30, 2) := by decide +kernel
theorem dX12_reads_94 : decode cX12_reads 94 = .ok (.goto 5, 3) := by decide +kernel
theorem dX12_reads_97 : decode cX12_reads 97 = .ok (.bipush 28, 2) := by decide +kernel
theorem dX12_reads_99 : decode cX12_reads 99 = .ok (.invokevirtual 200, 3) := by decide +kernel
theorem dX12_reads_102 : decode cX12_reads 102 = .ok (.iinc 1 1, 3) := by decide +kernel
theorem dX12_reads_105 : decode cX12_reads 105 = .ok (.aload_n 0, 1) := by decide +kernel
theorem dX12_reads_106 : decode cX12_reads 106 = .ok (.getfield 47, 3) := by decide +kernel
theorem dX12_reads_109 : decode cX12_reads 109 = .ok (.iload_n 1, 1) := by decide +kernel
theorem dX12_reads_110 : decode cX12_reads 110 = .ok (.iload 4, 2) := by decide +kernel
theorem dX12_reads_112 : decode cX12_reads 112 = .ok (.ifCond .eq 7, 3) := by decide +kernel
theorem dX12_reads_115 : decode cX12_reads 115 = .ok (.iconst 1, 1) := by decide +kernel
theorem dX12_reads_116 : decode cX12_reads 116 = .ok (.goto 4, 3) := by decide +kernel
theorem dX12_reads_119 : decode cX12_reads 119 = .ok (.iconst 2, 1) := by decide +kernel
theorem dX12_reads_120 : decode cX12_reads 120 = .ok (.iastore, 1) := by decide +kernel
theorem dX12_reads_121 : decode cX12_reads 121 = .ok (.aload_n 0, 1) := by decide +kernel
theorem dX12_reads_122 : decode cX12_reads 122 = .ok (.getfield 50, 3) := by decide +kernel
theorem dX12_reads_125 : decode cX12_reads 125 = .ok (.iload_n 1, 1) := by decide +kernel
theorem dX12_reads_126 : decode cX12_reads 126 = .ok (.iconst 0, 1) := by decide +kernel
theorem dX12_reads_127 : decode cX12_reads 127 = .ok (.bastore, 1) := by decide +kernel
theorem dX12_reads_128 : decode cX12_reads 128 = .ok (.goto 44, 3) := by decide +kernel
theorem dX12_reads_131 : decode cX12_reads 131 = .ok (.aload_n 0, 1) := by decide +kernel
theorem dX12_reads_132 : decode cX12_reads 132 = .ok (.iload_n 3, 1) := by decide +kernel
theorem dX12_reads_133 : decode cX12_reads 133 = .ok (.ifCond .le 7, 3) := by decide +kernel
theorem dX12_reads_136 : decode cX12_reads 136 = .ok (.iload_n 3, 1) := by decide +kernel
theorem dX12_reads_137 : decode cX12_reads 137 = .ok (.goto 10, 3) := by decide +kernel
theorem dX12_reads_140 : decode cX12_reads 140 = .ok (.bipush 100, 2) := by decide +kernel
theorem dX12_reads_142 : decode cX12_reads 142 = .ok (.aload_n 0, 1) := by decide +kernel
theorem dX12_reads_143 : decode cX12_reads 143 = .ok (.getfield 155, 3) := by decide +kernel
theorem dX12_reads_146 : decode cX12_reads 146 = .ok (.iadd, 1) := by decide +kernel
theorem dX12_reads_147 : decode cX12_reads 147 = .ok (.invokevirtual 200, 3) := by decide +kernel
theorem dX12_reads_150 : decode cX12_reads 150 = .ok (.iconst 0, 1) := by decide +kernel
theorem dX12_reads_151 : decode cX12_reads 151 = .ok (.istore_n 2, 1) := by decide +kernel
theorem dX12_reads_152 : decode cX12_reads 152 = .ok (.iload_n 1, 1) := by decide +kernel
theorem dX12_reads_153 : decode cX12_reads 153 = .ok (.ifCond .le 19, 3) := by decide +kernel
theorem dX12_reads_156 : decode cX12_reads 156 = .ok (.aload_n 0, 1) := by decide +kernel
theorem dX12_reads_157 : decode cX12_reads 157 = .ok (.getfield 47, 3) := by decide +kernel
theorem dX12_reads_160 : decode cX12_reads 160 = .ok (.iload_n 1, 1) := by decide +kernel
theorem dX12_reads_161 : decode cX12_reads 161 = .ok (.iaload, 1) := by decide +kernel
theorem dX12_reads_162 : decode cX12_reads 162 = .ok (.iconst 1, 1) := by decide +kernel
theorem dX12_reads_163 : decode cX12_reads 163 = .ok (.if_icmp .ne 9, 3) := by decide +kernel
theorem dX12_reads_166 : decode cX12_reads 166 = .ok (.iinc 1 (-1), 3) := by decide +kernel
theorem dX12_reads_169 : decode cX12_reads 169 = .ok (.goto (-17), 3) := by decide +kernel
theorem dX12_reads_172 : decode cX12_reads 172 = .ok (.aload_n 0, 1) := by decide +kernel
theorem dX12_reads_173 : decode cX12_reads 173 = .ok (.invokevirtual 203, 3) := by decide +kernel
theorem dX12_reads_176 : decode cX12_reads 176 = .ok (.goto (-165), 3) := by decide +kernel
theorem dX12_reads_179 : decode cX12_reads 179 = .ok (.aload_n 0, 1) := by decide +kernel
theorem dX12_reads_180 : decode cX12_reads 180 = .ok (.bipush 43, 2) := by decide +kernel
theorem dX12_reads_182 : decode cX12_reads 182 = .ok (.invokevirtual 193, 3) := by decide +kernel
theorem dX12_reads_185 : decode cX12_reads 185 = .ok (.ifCond .ne 21, 3) := by decide +kernel
theorem dX12_reads_188 : decode cX12_reads 188 = .ok (.aload_n 0, 1) := by decide +kernel
theorem dX12_reads_189 : decode cX12_reads 189 = .ok (.bipush 45, 2) := by decide +kernel
theorem dX12_reads_191 : decode cX12_reads 191 = .ok (.invokevirtual 193, 3) := by decide +kernel
theorem dX12_reads_194 : decode cX12_reads 194 = .ok (.ifCond .ne 12, 3) := by decide +kernel
theorem dX12_reads_197 : decode cX12_reads 197 = .ok (.aload_n 0, 1) := by decide +kernel
theorem dX12_reads_198 : decode cX12_reads 198 = .ok (.bipush 42, 2) := by decide +kernel
theorem dX12_reads_200 : decode cX12_reads 200 = .ok (.invokevirtual 193, 3) := by decide +kernel
theorem dX12_reads_203 : decode cX12_reads 203 = .ok (.ifCond .eq 42, 3) := by decide +kernel
theorem dX12_reads_206 : decode cX12_reads 206 = .ok (.aload_n 0, 1) := by decide +kernel
theorem dX12_reads_207 : decode cX12_reads 207 = .ok (.aload_n 0, 1) := by decide +kernel
theorem dX12_reads_208 : decode cX12_reads 208 = .ok (.bipush 43, 2) := by decide +kernel
theorem dX12_reads_210 : decode cX12_reads 210 = .ok (.invokevirtual 193, 3) := by decide +kernel
theorem dX12_reads_213 : decode cX12_reads 213 = .ok (.ifCond .eq 8, 3) := by decide +kernel
theorem dX12_reads_216 : decode cX12_reads 216 = .ok (.bipush 20, 2) := by decide +kernel
theorem dX12_reads_218 : decode cX12_reads 218 = .ok (.goto 19, 3) := by decide +kernel
theorem dX12_reads_221 : decode cX12_reads 221 = .ok (.aload_n 0, 1) := by decide +kernel
theorem dX12_reads_222 : decode cX12_reads 222 = .ok (.bipush 45, 2) := by decide +kernel
theorem dX12_reads_224 : decode cX12_reads 224 = .ok (.invokevirtual 193, 3) := by decide +kernel
theorem dX12_reads_227 : decode cX12_reads 227 = .ok (.ifCond .eq 8, 3) := by decide +kernel
theorem dX12_reads_230 : decode cX12_reads 230 = .ok (.bipush 21, 2) := by decide +kernel
theorem dX12_reads_232 : decode cX12_reads 232 = .ok (.goto 5, 3) := by decide +kernel
theorem dX12_reads_235 : decode cX12_reads 235 = .ok (.bipush 22, 2) := by decide +kernel
theorem dX12_reads_237 : decode cX12_reads 237 = .ok (.invokevirtual 200, 3) := by decide +kernel
theorem dX12_reads_240 : decode cX12_reads 240 = .ok (.iconst 1, 1) := by decide +kernel
theorem dX12_reads_241 : decode cX12_reads 241 = .ok (.istore_n 2, 1) := by decide +kernel
theorem dX12_reads_242 : decode cX12_reads 242 = .ok (.goto 182, 3) := by decide +kernel
theorem dX12_reads_245 : decode cX12_reads 245 = .ok (.aload_n 0, 1) := by decide +kernel
theorem dX12_reads_246 : decode cX12_reads 246 = .ok (.bipush 60, 2) := by decide +kernel
theorem dX12_reads_248 : decode cX12_reads 248 = .ok (.invokevirtual 193, 3) := by decide +kernel
theorem dX12_reads_251 : decode cX12_reads 251 = .ok (.ifCond .ne 12, 3) := by decide +kernel
theorem dX12_reads_254 : decode cX12_reads 254 = .ok (.aload_n 0, 1) := by decide +kernel
theorem dX12_reads_255 : decode cX12_reads 255 = .ok (.bipush 61, 2) := by decide +kernel
theorem dX12_reads_257 : decode cX12_reads 257 = .ok (.invokevirtual 193, 3) := by decide +kernel
theorem dX12_reads_260 : decode cX12_reads 260 = .ok (.ifCond .eq 44, 3) := by decide +kernel
theorem dX12_reads_263 : decode cX12_reads 263 = .ok (.aload_n 0, 1) := by decide +kernel
theorem dX12_reads_264 : decode cX12_reads 264 = .ok (.getfield 50, 3) := by decide +kernel
theorem dX12_reads_267 : decode cX12_reads 267 = .ok (.iload_n 1, 1) := by decide +kernel
theorem dX12_reads_268 : decode cX12_reads 268 = .ok (.baload, 1) := by decide +kernel
theorem dX12_reads_269 : decode cX12_reads 269 = .ok (.ifCond .ne 35, 3) := by decide +kernel
theorem dX12_reads_272 : decode cX12_reads 272 = .ok (.aload_n 0, 1) := by decide +kernel
theorem dX12_reads_273 : decode cX12_reads 273 = .ok (.aload_n 0, 1) := by decide +kernel
theorem dX12_reads_274 : decode cX12_reads 274 = .ok (.bipush 60, 2) := by decide +kernel
theorem dX12_reads_276 : decode cX12_reads 276 = .ok (.invokevirtual 193, 3) := by decide +kernel
theorem dX12_reads_279 : decode cX12_reads 279 = .ok (.ifCond .eq 8, 3) := by decide +kernel
theorem dX12_reads_282 : decode cX12_reads 282 = .ok (.bipush 24, 2) := by decide +kernel
theorem dX12_reads_284 : decode cX12_reads 284 = .ok (.goto 5, 3) := by decide +kernel
theorem dX12_reads_287 : decode cX12_reads 287 = .ok (.bipush 25, 2) := by decide +kernel
theorem dX12_reads_289 : decode cX12_reads 289 = .ok (.invokevirtual 200, 3) := by decide +kernel
theorem dX12_reads_292 : decode cX12_reads 292 = .ok (.aload_n 0, 1) := by decide +kernel
theorem dX12_reads_293 : decode cX12_reads 293 = .ok (.getfield 50, 3) := by decide +kernel
theorem dX12_reads_296 : decode cX12_reads 296 = .ok (.iload_n 1, 1) := by decide +kernel
theorem dX12_reads_297 : decode cX12_reads 297 = .ok (.iconst 1, 1) := by decide +kernel
theorem dX12_reads_298 : decode cX12_reads 298 = .ok (.bastore, 1) := by decide +kernel
theorem dX12_reads_299 : decode cX12_reads 299 = .ok (.iconst 1, 1) := by decide +kernel
theorem dX12_reads_300 : decode cX12_reads 300 = .ok (.istore_n 2, 1) := by decide +kernel
theorem dX12_reads_301 : decode cX12_reads 301 = .ok (.goto 123, 3) := by decide +kernel
theorem dX12_reads_304 : decode cX12_reads 304 = .ok (.aload_n 0, 1) := by decide +kernel
theorem dX12_reads_305 : decode cX12_reads 305 = .ok (.ldc2_w 206, 3) := by decide +kernel
theorem dX12_reads_308 : decode cX12_reads 308 = .ok (.invokevirtual 189, 3) := by decide +kernel
theorem dX12_reads_311 : decode cX12_reads 311 = .ok (.ifCond .ne 13, 3) := by decide +kernel
theorem dX12_reads_314 : decode cX12_reads 314 = .ok (.aload_n 0, 1) := by decide +kernel
theorem dX12_reads_315 : decode cX12_reads 315 = .ok (.ldc2_w 208, 3) := by decide +kernel
theorem dX12_reads_318 : decode cX12_reads 318 = .ok (.invokevirtual 189, 3) := by decide +kernel
theorem dX12_reads_321 : decode cX12_reads 321 = .ok (.ifCond .eq 36, 3) := by decide +kernel
theorem dX12_reads_324 : decode cX12_reads 324 = .ok (.aload_n 0, 1) := by decide +kernel
theorem dX12_reads_325 : decode cX12_reads 325 = .ok (.aload_n 0, 1) := by decide +kernel
theorem dX12_reads_326 : decode cX12_reads 326 = .ok (.ldc2_w 206, 3) := by decide +kernel
theorem dX12_reads_329 : decode cX12_reads 329 = .ok (.invokevirtual 189, 3) := by decide +kernel
theorem dX12_reads_332 : decode cX12_reads 332 = .ok (.ifCond .eq 8, 3) := by decide +kernel
theorem dX12_reads_335 : decode cX12_reads 335 = .ok (.bipush 26, 2) := by decide +kernel
theorem dX12_reads_337 : decode cX12_reads 337 = .ok (.goto 5, 3) := by decide +kernel
theorem dX12_reads_340 : decode cX12_reads 340 = .ok (.bipush 27, 2) := by decide +kernel
theorem dX12_reads_342 : decode cX12_reads 342 = .ok (.invokevirtual 200, 3) := by decide +kernel
theorem dX12_reads_345 : decode cX12_reads 345 = .ok (.aload_n 0, 1) := by decide +kernel
theorem dX12_reads_346 : decode cX12_reads 346 = .ok (.getfield 50, 3) := by decide +kernel
theorem dX12_reads_349 : decode cX12_reads 349 = .ok (.iload_n 1, 1) := by decide +kernel
theorem dX12_reads_350 : decode cX12_reads 350 = .ok (.iconst 0, 1) := by decide +kernel
theorem dX12_reads_351 : decode cX12_reads 351 = .ok (.bastore, 1) := by decide +kernel
theorem dX12_reads_352 : decode cX12_reads 352 = .ok (.iconst 1, 1) := by decide +kernel
theorem dX12_reads_353 : decode cX12_reads 353 = .ok (.istore_n 2, 1) := by decide +kernel
theorem dX12_reads_354 : decode cX12_reads 354 = .ok (.goto 70, 3) := by decide +kernel
theorem dX12_reads_357 : decode cX12_reads 357 = .ok (.aload_n 0, 1) := by decide +kernel
theorem dX12_reads_358 : decode cX12_reads 358 = .ok (.bipush 41, 2) := by decide +kernel
theorem dX12_reads_360 : decode cX12_reads 360 = .ok (.invokevirtual 193, 3) := by decide +kernel
theorem dX12_reads_363 : decode cX12_reads 363 = .ok (.ifCond .eq 36, 3) := by decide +kernel
theorem dX12_reads_366 : decode cX12_reads 366 = .ok (.iload_n 1, 1) := by decide +kernel
theorem dX12_reads_367 : decode cX12_reads 367 = .ok (.ifCond .le 32, 3) := by decide +kernel
theorem dX12_reads_370 : decode cX12_reads 370 = .ok (.aload_n 0, 1) := by decide +kernel
theorem dX12_reads_371 : decode cX12_reads 371 = .ok (.bipush 29, 2) := by decide +kernel
theorem dX12_reads_373 : decode cX12_reads 373 = .ok (.invokevirtual 200, 3) := by decide +kernel
theorem dX12_reads_376 : decode cX12_reads 376 = .ok (.iinc 1 (-1), 3) := by decide +kernel
theorem dX12_reads_379 : decode cX12_reads 379 = .ok (.iload_n 1, 1) := by decide +kernel
theorem dX12_reads_380 : decode cX12_reads 380 = .ok (.ifCond .le 44, 3) := by decide +kernel
theorem dX12_reads_383 : decode cX12_reads 383 = .ok (.aload_n 0, 1) := by decide +kernel
theorem dX12_reads_384 : decode cX12_reads 384 = .ok (.getfield 47, 3) := by decide +kernel
theorem dX12_reads_387 : decode cX12_reads 387 = .ok (.iload_n 1, 1) := by decide +kernel
theorem dX12_reads_388 : decode cX12_reads 388 = .ok (.iaload, 1) := by decide +kernel
theorem dX12_reads_389 : decode cX12_reads 389 = .ok (.iconst 1, 1) := by decide +kernel
theorem dX12_reads_390 : decode cX12_reads 390 = .ok (.if_icmp .ne 34, 3) := by decide +kernel
theorem dX12_reads_393 : decode cX12_reads 393 = .ok (.iinc 1 (-1), 3) := by decide +kernel
theorem dX12_reads_396 : decode cX12_reads 396 = .ok (.goto (-17), 3) := by decide +kernel
theorem dX12_reads_399 : decode cX12_reads 399 = .ok (.iload_n 1, 1) := by decide +kernel
theorem dX12_reads_400 : decode cX12_reads 400 = .ok (.ifCond .ne 18, 3) := by decide +kernel
theorem dX12_reads_403 : decode cX12_reads 403 = .ok (.aload_n 0, 1) := by decide +kernel
theorem dX12_reads_404 : decode cX12_reads 404 = .ok (.bipush 59, 2) := by decide +kernel
theorem dX12_reads_406 : decode cX12_reads 406 = .ok (.invokevirtual 193, 3) := by decide +kernel
theorem dX12_reads_409 : decode cX12_reads 409 = .ok (.ifCond .eq 9, 3) := by decide +kernel
theorem dX12_reads_412 : decode cX12_reads 412 = .ok (.aload_n 0, 1) := by decide +kernel
theorem dX12_reads_413 : decode cX12_reads 413 = .ok (.invokevirtual 203, 3) := by decide +kernel
theorem dX12_reads_416 : decode cX12_reads 416 = .ok (.iconst 1, 1) := by decide +kernel
theorem dX12_reads_417 : decode cX12_reads 417 = .ok (.ireturn, 1) := by decide +kernel
theorem dX12_reads_418 : decode cX12_reads 418 = .ok (.aload_n 0, 1) := by decide +kernel
theorem dX12_reads_419 : decode cX12_reads 419 = .ok (.iconst 1, 1) := by decide +kernel
theorem dX12_reads_420 : decode cX12_reads 420 = .ok (.invokevirtual 197, 3) := by decide +kernel
theorem dX12_reads_423 : decode cX12_reads 423 = .ok (.ireturn, 1) := by decide +kernel
theorem dX12_reads_424 : decode cX12_reads 424 = .ok (.aload_n 0, 1) := by decide +kernel
theorem dX12_reads_425 : decode cX12_reads 425 = .ok (.invokevirtual 203, 3) := by decide +kernel
theorem dX12_reads_428 : decode cX12_reads 428 = .ok (.goto (-417), 3) := by decide +kernel
theorem dX12_opens_0 : decode cX12_opens 0 = .ok (.aload_n 0, 1) := by decide +kernel
theorem dX12_opens_1 : decode cX12_opens 1 = .ok (.getfield 57, 3) := by decide +kernel
theorem dX12_opens_4 : decode cX12_opens 4 = .ok (.iload_n 1, 1) := by decide +kernel
theorem dX12_opens_5 : decode cX12_opens 5 = .ok (.iconst 0, 1) := by decide +kernel
theorem dX12_opens_6 : decode cX12_opens 6 = .ok (.iastore, 1) := by decide +kernel
theorem dX12_opens_7 : decode cX12_opens 7 = .ok (.aload_n 0, 1) := by decide +kernel
theorem dX12_opens_8 : decode cX12_opens 8 = .ok (.getfield 63, 3) := by decide +kernel
theorem dX12_opens_11 : decode cX12_opens 11 = .ok (.iload_n 1, 1) := by decide +kernel
theorem dX12_opens_12 : decode cX12_opens 12 = .ok (.iconst 0, 1) := by decide +kernel
theorem dX12_opens_13 : decode cX12_opens 13 = .ok (.iastore, 1) := by decide +kernel
theorem dX12_opens_14 : decode cX12_opens 14 = .ok (.aload_n 0, 1) := by decide +kernel
theorem dX12_opens_15 : decode cX12_opens 15 = .ok (.getfield 66, 3) := by decide +kernel
theorem dX12_opens_18 : decode cX12_opens 18 = .ok (.iload_n 1, 1) := by decide +kernel
theorem dX12_opens_19 : decode cX12_opens 19 = .ok (.iconst 0, 1) := by decide +kernel
theorem dX12_opens_20 : decode cX12_opens 20 = .ok (.iastore, 1) := by decide +kernel
theorem dX12_opens_21 : decode cX12_opens 21 = .ok (.aload_n 0, 1) := by decide +kernel
theorem dX12_opens_22 : decode cX12_opens 22 = .ok (.getfield 69, 3) := by decide +kernel
theorem dX12_opens_25 : decode cX12_opens 25 = .ok (.iload_n 1, 1) := by decide +kernel
theorem dX12_opens_26 : decode cX12_opens 26 = .ok (.bipush 20, 2) := by decide +kernel
theorem dX12_opens_28 : decode cX12_opens 28 = .ok (.iastore, 1) := by decide +kernel
theorem dX12_opens_29 : decode cX12_opens 29 = .ok (.aload_n 0, 1) := by decide +kernel
theorem dX12_opens_30 : decode cX12_opens 30 = .ok (.getfield 75, 3) := by decide +kernel
theorem dX12_opens_33 : decode cX12_opens 33 = .ok (.iload_n 1, 1) := by decide +kernel
theorem dX12_opens_34 : decode cX12_opens 34 = .ok (.iconst 0, 1) := by decide +kernel
theorem dX12_opens_35 : decode cX12_opens 35 = .ok (.iastore, 1) := by decide +kernel
theorem dX12_opens_36 : decode cX12_opens 36 = .ok (.return_, 1) := by decide +kernel
theorem dX12_sums_0 : decode cX12_sums 0 = .ok (.aload_n 0, 1) := by decide +kernel
theorem dX12_sums_1 : decode cX12_sums 1 = .ok (.getfield 66, 3) := by decide +kernel
theorem dX12_sums_4 : decode cX12_sums 4 = .ok (.iload_n 1, 1) := by decide +kernel
theorem dX12_sums_5 : decode cX12_sums 5 = .ok (.aload_n 0, 1) := by decide +kernel
theorem dX12_sums_6 : decode cX12_sums 6 = .ok (.getfield 69, 3) := by decide +kernel
theorem dX12_sums_9 : decode cX12_sums 9 = .ok (.iload_n 1, 1) := by decide +kernel
theorem dX12_sums_10 : decode cX12_sums 10 = .ok (.iaload, 1) := by decide +kernel
theorem dX12_sums_11 : decode cX12_sums 11 = .ok (.bipush 21, 2) := by decide +kernel
theorem dX12_sums_13 : decode cX12_sums 13 = .ok (.if_icmp .ne 19, 3) := by decide +kernel
theorem dX12_sums_16 : decode cX12_sums 16 = .ok (.aload_n 0, 1) := by decide +kernel
theorem dX12_sums_17 : decode cX12_sums 17 = .ok (.getfield 66, 3) := by decide +kernel
theorem dX12_sums_20 : decode cX12_sums 20 = .ok (.iload_n 1, 1) := by decide +kernel
theorem dX12_sums_21 : decode cX12_sums 21 = .ok (.iaload, 1) := by decide +kernel
theorem dX12_sums_22 : decode cX12_sums 22 = .ok (.aload_n 0, 1) := by decide +kernel
theorem dX12_sums_23 : decode cX12_sums 23 = .ok (.getfield 72, 3) := by decide +kernel
theorem dX12_sums_26 : decode cX12_sums 26 = .ok (.iload_n 1, 1) := by decide +kernel
theorem dX12_sums_27 : decode cX12_sums 27 = .ok (.iaload, 1) := by decide +kernel
theorem dX12_sums_28 : decode cX12_sums 28 = .ok (.isub, 1) := by decide +kernel
theorem dX12_sums_29 : decode cX12_sums 29 = .ok (.goto 16, 3) := by decide +kernel
theorem dX12_sums_32 : decode cX12_sums 32 = .ok (.aload_n 0, 1) := by decide +kernel
theorem dX12_sums_33 : decode cX12_sums 33 = .ok (.getfield 66, 3) := by decide +kernel
theorem dX12_sums_36 : decode cX12_sums 36 = .ok (.iload_n 1, 1) := by decide +kernel
theorem dX12_sums_37 : decode cX12_sums 37 = .ok (.iaload, 1) := by decide +kernel
theorem dX12_sums_38 : decode cX12_sums 38 = .ok (.aload_n 0, 1) := by decide +kernel
theorem dX12_sums_39 : decode cX12_sums 39 = .ok (.getfield 72, 3) := by decide +kernel
theorem dX12_sums_42 : decode cX12_sums 42 = .ok (.iload_n 1, 1) := by decide +kernel
theorem dX12_sums_43 : decode cX12_sums 43 = .ok (.iaload, 1) := by decide +kernel
theorem dX12_sums_44 : decode cX12_sums 44 = .ok (.iadd, 1) := by decide +kernel
theorem dX12_sums_45 : decode cX12_sums 45 = .ok (.iastore, 1) := by decide +kernel
theorem dX12_sums_46 : decode cX12_sums 46 = .ok (.aload_n 0, 1) := by decide +kernel
theorem dX12_sums_47 : decode cX12_sums 47 = .ok (.getfield 75, 3) := by decide +kernel
theorem dX12_sums_50 : decode cX12_sums 50 = .ok (.iload_n 1, 1) := by decide +kernel
theorem dX12_sums_51 : decode cX12_sums 51 = .ok (.iconst 0, 1) := by decide +kernel
theorem dX12_sums_52 : decode cX12_sums 52 = .ok (.iastore, 1) := by decide +kernel
theorem dX12_sums_53 : decode cX12_sums 53 = .ok (.return_, 1) := by decide +kernel
theorem dX12_tests_0 : decode cX12_tests 0 = .ok (.aload_n 0, 1) := by decide +kernel
theorem dX12_tests_1 : decode cX12_tests 1 = .ok (.iload_n 1, 1) := by decide +kernel
theorem dX12_tests_2 : decode cX12_tests 2 = .ok (.invokevirtual 210, 3) := by decide +kernel
theorem dX12_tests_5 : decode cX12_tests 5 = .ok (.aload_n 0, 1) := by decide +kernel
theorem dX12_tests_6 : decode cX12_tests 6 = .ok (.getfield 66, 3) := by decide +kernel
theorem dX12_tests_9 : decode cX12_tests 9 = .ok (.iload_n 1, 1) := by decide +kernel
theorem dX12_tests_10 : decode cX12_tests 10 = .ok (.iaload, 1) := by decide +kernel
theorem dX12_tests_11 : decode cX12_tests 11 = .ok (.istore_n 2, 1) := by decide +kernel
theorem dX12_tests_12 : decode cX12_tests 12 = .ok (.aload_n 0, 1) := by decide +kernel
theorem dX12_tests_13 : decode cX12_tests 13 = .ok (.getfield 63, 3) := by decide +kernel
theorem dX12_tests_16 : decode cX12_tests 16 = .ok (.iload_n 1, 1) := by decide +kernel
theorem dX12_tests_17 : decode cX12_tests 17 = .ok (.iaload, 1) := by decide +kernel
theorem dX12_tests_18 : decode cX12_tests 18 = .ok (.bipush 24, 2) := by decide +kernel
theorem dX12_tests_20 : decode cX12_tests 20 = .ok (.if_icmp .ne 24, 3) := by decide +kernel
theorem dX12_tests_23 : decode cX12_tests 23 = .ok (.aload_n 0, 1) := by decide +kernel
theorem dX12_tests_24 : decode cX12_tests 24 = .ok (.getfield 60, 3) := by decide +kernel
theorem dX12_tests_27 : decode cX12_tests 27 = .ok (.iload_n 1, 1) := by decide +kernel
theorem dX12_tests_28 : decode cX12_tests 28 = .ok (.iaload, 1) := by decide +kernel
theorem dX12_tests_29 : decode cX12_tests 29 = .ok (.aload_n 0, 1) := by decide +kernel
theorem dX12_tests_30 : decode cX12_tests 30 = .ok (.getfield 66, 3) := by decide +kernel
theorem dX12_tests_33 : decode cX12_tests 33 = .ok (.iload_n 1, 1) := by decide +kernel
theorem dX12_tests_34 : decode cX12_tests 34 = .ok (.iaload, 1) := by decide +kernel
theorem dX12_tests_35 : decode cX12_tests 35 = .ok (.if_icmp .ge 7, 3) := by decide +kernel
theorem dX12_tests_38 : decode cX12_tests 38 = .ok (.iconst 1, 1) := by decide +kernel
theorem dX12_tests_39 : decode cX12_tests 39 = .ok (.goto 4, 3) := by decide +kernel
theorem dX12_tests_42 : decode cX12_tests 42 = .ok (.iconst 0, 1) := by decide +kernel
theorem dX12_tests_43 : decode cX12_tests 43 = .ok (.istore_n 2, 1) := by decide +kernel
theorem dX12_tests_44 : decode cX12_tests 44 = .ok (.aload_n 0, 1) := by decide +kernel
theorem dX12_tests_45 : decode cX12_tests 45 = .ok (.getfield 63, 3) := by decide +kernel
theorem dX12_tests_48 : decode cX12_tests 48 = .ok (.iload_n 1, 1) := by decide +kernel
theorem dX12_tests_49 : decode cX12_tests 49 = .ok (.iaload, 1) := by decide +kernel
theorem dX12_tests_50 : decode cX12_tests 50 = .ok (.bipush 25, 2) := by decide +kernel
theorem dX12_tests_52 : decode cX12_tests 52 = .ok (.if_icmp .ne 24, 3) := by decide +kernel
theorem dX12_tests_55 : decode cX12_tests 55 = .ok (.aload_n 0, 1) := by decide +kernel
theorem dX12_tests_56 : decode cX12_tests 56 = .ok (.getfield 60, 3) := by decide +kernel
theorem dX12_tests_59 : decode cX12_tests 59 = .ok (.iload_n 1, 1) := by decide +kernel
theorem dX12_tests_60 : decode cX12_tests 60 = .ok (.iaload, 1) := by decide +kernel
theorem dX12_tests_61 : decode cX12_tests 61 = .ok (.aload_n 0, 1) := by decide +kernel
theorem dX12_tests_62 : decode cX12_tests 62 = .ok (.getfield 66, 3) := by decide +kernel
theorem dX12_tests_65 : decode cX12_tests 65 = .ok (.iload_n 1, 1) := by decide +kernel
theorem dX12_tests_66 : decode cX12_tests 66 = .ok (.iaload, 1) := by decide +kernel
theorem dX12_tests_67 : decode cX12_tests 67 = .ok (.if_icmp .ne 7, 3) := by decide +kernel
theorem dX12_tests_70 : decode cX12_tests 70 = .ok (.iconst 1, 1) := by decide +kernel
theorem dX12_tests_71 : decode cX12_tests 71 = .ok (.goto 4, 3) := by decide +kernel
theorem dX12_tests_74 : decode cX12_tests 74 = .ok (.iconst 0, 1) := by decide +kernel
theorem dX12_tests_75 : decode cX12_tests 75 = .ok (.istore_n 2, 1) := by decide +kernel
theorem dX12_tests_76 : decode cX12_tests 76 = .ok (.aload_n 0, 1) := by decide +kernel
theorem dX12_tests_77 : decode cX12_tests 77 = .ok (.getfield 57, 3) := by decide +kernel
theorem dX12_tests_80 : decode cX12_tests 80 = .ok (.iload_n 1, 1) := by decide +kernel
theorem dX12_tests_81 : decode cX12_tests 81 = .ok (.iaload, 1) := by decide +kernel
theorem dX12_tests_82 : decode cX12_tests 82 = .ok (.bipush 26, 2) := by decide +kernel
theorem dX12_tests_84 : decode cX12_tests 84 = .ok (.if_icmp .ne 22, 3) := by decide +kernel
theorem dX12_tests_87 : decode cX12_tests 87 = .ok (.aload_n 0, 1) := by decide +kernel
theorem dX12_tests_88 : decode cX12_tests 88 = .ok (.getfield 54, 3) := by decide +kernel
theorem dX12_tests_91 : decode cX12_tests 91 = .ok (.iload_n 1, 1) := by decide +kernel
theorem dX12_tests_92 : decode cX12_tests 92 = .ok (.iaload, 1) := by decide +kernel
theorem dX12_tests_93 : decode cX12_tests 93 = .ok (.ifCond .eq 11, 3) := by decide +kernel
theorem dX12_tests_96 : decode cX12_tests 96 = .ok (.iload_n 2, 1) := by decide +kernel
theorem dX12_tests_97 : decode cX12_tests 97 = .ok (.ifCond .eq 7, 3) := by decide +kernel
theorem dX12_tests_100 : decode cX12_tests 100 = .ok (.iconst 1, 1) := by decide +kernel
theorem dX12_tests_101 : decode cX12_tests 101 = .ok (.goto 4, 3) := by decide +kernel
theorem dX12_tests_104 : decode cX12_tests 104 = .ok (.iconst 0, 1) := by decide +kernel
theorem dX12_tests_105 : decode cX12_tests 105 = .ok (.istore_n 2, 1) := by decide +kernel
theorem dX12_tests_106 : decode cX12_tests 106 = .ok (.aload_n 0, 1) := by decide +kernel
theorem dX12_tests_107 : decode cX12_tests 107 = .ok (.getfield 57, 3) := by decide +kernel
theorem dX12_tests_110 : decode cX12_tests 110 = .ok (.iload_n 1, 1) := by decide +kernel
theorem dX12_tests_111 : decode cX12_tests 111 = .ok (.iaload, 1) := by decide +kernel
theorem dX12_tests_112 : decode cX12_tests 112 = .ok (.bipush 27, 2) := by decide +kernel
theorem dX12_tests_114 : decode cX12_tests 114 = .ok (.if_icmp .ne 22, 3) := by decide +kernel
theorem dX12_tests_117 : decode cX12_tests 117 = .ok (.aload_n 0, 1) := by decide +kernel
theorem dX12_tests_118 : decode cX12_tests 118 = .ok (.getfield 54, 3) := by decide +kernel
theorem dX12_tests_121 : decode cX12_tests 121 = .ok (.iload_n 1, 1) := by decide +kernel
theorem dX12_tests_122 : decode cX12_tests 122 = .ok (.iaload, 1) := by decide +kernel
theorem dX12_tests_123 : decode cX12_tests 123 = .ok (.ifCond .ne 7, 3) := by decide +kernel
theorem dX12_tests_126 : decode cX12_tests 126 = .ok (.iload_n 2, 1) := by decide +kernel
theorem dX12_tests_127 : decode cX12_tests 127 = .ok (.ifCond .eq 7, 3) := by decide +kernel
theorem dX12_tests_130 : decode cX12_tests 130 = .ok (.iconst 1, 1) := by decide +kernel
theorem dX12_tests_131 : decode cX12_tests 131 = .ok (.goto 4, 3) := by decide +kernel
theorem dX12_tests_134 : decode cX12_tests 134 = .ok (.iconst 0, 1) := by decide +kernel
theorem dX12_tests_135 : decode cX12_tests 135 = .ok (.istore_n 2, 1) := by decide +kernel
theorem dX12_tests_136 : decode cX12_tests 136 = .ok (.aload_n 0, 1) := by decide +kernel
theorem dX12_tests_137 : decode cX12_tests 137 = .ok (.getfield 54, 3) := by decide +kernel
theorem dX12_tests_140 : decode cX12_tests 140 = .ok (.iload_n 1, 1) := by decide +kernel
theorem dX12_tests_141 : decode cX12_tests 141 = .ok (.iload_n 2, 1) := by decide +kernel
theorem dX12_tests_142 : decode cX12_tests 142 = .ok (.iastore, 1) := by decide +kernel
theorem dX12_tests_143 : decode cX12_tests 143 = .ok (.aload_n 0, 1) := by decide +kernel
theorem dX12_tests_144 : decode cX12_tests 144 = .ok (.getfield 63, 3) := by decide +kernel
theorem dX12_tests_147 : decode cX12_tests 147 = .ok (.iload_n 1, 1) := by decide +kernel
theorem dX12_tests_148 : decode cX12_tests 148 = .ok (.iconst 0, 1) := by decide +kernel
theorem dX12_tests_149 : decode cX12_tests 149 = .ok (.iastore, 1) := by decide +kernel
theorem dX12_tests_150 : decode cX12_tests 150 = .ok (.aload_n 0, 1) := by decide +kernel
theorem dX12_tests_151 : decode cX12_tests 151 = .ok (.getfield 66, 3) := by decide +kernel
theorem dX12_tests_154 : decode cX12_tests 154 = .ok (.iload_n 1, 1) := by decide +kernel
theorem dX12_tests_155 : decode cX12_tests 155 = .ok (.iconst 0, 1) := by decide +kernel
theorem dX12_tests_156 : decode cX12_tests 156 = .ok (.iastore, 1) := by decide +kernel
theorem dX12_tests_157 : decode cX12_tests 157 = .ok (.aload_n 0, 1) := by decide +kernel
theorem dX12_tests_158 : decode cX12_tests 158 = .ok (.getfield 69, 3) := by decide +kernel
theorem dX12_tests_161 : decode cX12_tests 161 = .ok (.iload_n 1, 1) := by decide +kernel
theorem dX12_tests_162 : decode cX12_tests 162 = .ok (.bipush 20, 2) := by decide +kernel
theorem dX12_tests_164 : decode cX12_tests 164 = .ok (.iastore, 1) := by decide +kernel
theorem dX12_tests_165 : decode cX12_tests 165 = .ok (.return_, 1) := by decide +kernel
theorem dX12_worked_0 : decode cX12_worked 0 = .ok (.iconst 0, 1) := by decide +kernel
theorem dX12_worked_1 : decode cX12_worked 1 = .ok (.istore_n 2, 1) := by decide +kernel
theorem dX12_worked_2 : decode cX12_worked 2 = .ok (.aload_n 0, 1) := by decide +kernel
theorem dX12_worked_3 : decode cX12_worked 3 = .ok (.iconst 0, 1) := by decide +kernel
theorem dX12_worked_4 : decode cX12_worked 4 = .ok (.invokevirtual 213, 3) := by decide +kernel
theorem dX12_worked_7 : decode cX12_worked 7 = .ok (.aload_n 0, 1) := by decide +kernel
theorem dX12_worked_8 : decode cX12_worked 8 = .ok (.getfield 38, 3) := by decide +kernel
theorem dX12_worked_11 : decode cX12_worked 11 = .ok (.iload_n 1, 1) := by decide +kernel
theorem dX12_worked_12 : decode cX12_worked 12 = .ok (.iaload, 1) := by decide +kernel
theorem dX12_worked_13 : decode cX12_worked 13 = .ok (.istore_n 3, 1) := by decide +kernel
theorem dX12_worked_14 : decode cX12_worked 14 = .ok (.iload_n 3, 1) := by decide +kernel
theorem dX12_worked_15 : decode cX12_worked 15 = .ok (.aload_n 0, 1) := by decide +kernel
theorem dX12_worked_16 : decode cX12_worked 16 = .ok (.getfield 41, 3) := by decide +kernel
theorem dX12_worked_19 : decode cX12_worked 19 = .ok (.iload_n 1, 1) := by decide +kernel
theorem dX12_worked_20 : decode cX12_worked 20 = .ok (.iaload, 1) := by decide +kernel
theorem dX12_worked_21 : decode cX12_worked 21 = .ok (.if_icmp .ge 314, 3) := by decide +kernel
theorem dX12_worked_24 : decode cX12_worked 24 = .ok (.aload_n 0, 1) := by decide +kernel
theorem dX12_worked_25 : decode cX12_worked 25 = .ok (.getfield 44, 3) := by decide +kernel
theorem dX12_worked_28 : decode cX12_worked 28 = .ok (.iload_n 3, 1) := by decide +kernel
theorem dX12_worked_29 : decode cX12_worked 29 = .ok (.iaload, 1) := by decide +kernel
theorem dX12_worked_30 : decode cX12_worked 30 = .ok (.istore 4, 2) := by decide +kernel
theorem dX12_worked_32 : decode cX12_worked 32 = .ok (.iload 4, 2) := by decide +kernel
theorem dX12_worked_34 : decode cX12_worked 34 = .ok (.bipush 28, 2) := by decide +kernel
theorem dX12_worked_36 : decode cX12_worked 36 = .ok (.if_icmp .eq 10, 3) := by decide +kernel
theorem dX12_worked_39 : decode cX12_worked 39 = .ok (.iload 4, 2) := by decide +kernel
theorem dX12_worked_41 : decode cX12_worked 41 = .ok (.bipush 30, 2) := by decide +kernel
theorem dX12_worked_43 : decode cX12_worked 43 = .ok (.if_icmp .ne 32, 3) := by decide +kernel
theorem dX12_worked_46 : decode cX12_worked 46 = .ok (.iinc 2 1, 3) := by decide +kernel
theorem dX12_worked_49 : decode cX12_worked 49 = .ok (.aload_n 0, 1) := by decide +kernel
theorem dX12_worked_50 : decode cX12_worked 50 = .ok (.getfield 78, 3) := by decide +kernel
theorem dX12_worked_53 : decode cX12_worked 53 = .ok (.iload_n 2, 1) := by decide +kernel
theorem dX12_worked_54 : decode cX12_worked 54 = .ok (.iload 4, 2) := by decide +kernel
theorem dX12_worked_56 : decode cX12_worked 56 = .ok (.bipush 30, 2) := by decide +kernel
theorem dX12_worked_58 : decode cX12_worked 58 = .ok (.if_icmp .ne 7, 3) := by decide +kernel
theorem dX12_worked_61 : decode cX12_worked 61 = .ok (.iconst 1, 1) := by decide +kernel
theorem dX12_worked_62 : decode cX12_worked 62 = .ok (.goto 4, 3) := by decide +kernel
theorem dX12_worked_65 : decode cX12_worked 65 = .ok (.iconst 0, 1) := by decide +kernel
theorem dX12_worked_66 : decode cX12_worked 66 = .ok (.iastore, 1) := by decide +kernel
theorem dX12_worked_67 : decode cX12_worked 67 = .ok (.aload_n 0, 1) := by decide +kernel
theorem dX12_worked_68 : decode cX12_worked 68 = .ok (.iload_n 2, 1) := by decide +kernel
theorem dX12_worked_69 : decode cX12_worked 69 = .ok (.invokevirtual 213, 3) := by decide +kernel
theorem dX12_worked_72 : decode cX12_worked 72 = .ok (.goto 257, 3) := by decide +kernel
theorem dX12_worked_75 : decode cX12_worked 75 = .ok (.iload 4, 2) := by decide +kernel
theorem dX12_worked_77 : decode cX12_worked 77 = .ok (.bipush 20, 2) := by decide +kernel
theorem dX12_worked_79 : decode cX12_worked 79 = .ok (.if_icmp .eq 10, 3) := by decide +kernel
theorem dX12_worked_82 : decode cX12_worked 82 = .ok (.iload 4, 2) := by decide +kernel
theorem dX12_worked_84 : decode cX12_worked 84 = .ok (.bipush 21, 2) := by decide +kernel
theorem dX12_worked_86 : decode cX12_worked 86 = .ok (.if_icmp .ne 19, 3) := by decide +kernel
theorem dX12_worked_89 : decode cX12_worked 89 = .ok (.aload_n 0, 1) := by decide +kernel
theorem dX12_worked_90 : decode cX12_worked 90 = .ok (.iload_n 2, 1) := by decide +kernel
theorem dX12_worked_91 : decode cX12_worked 91 = .ok (.invokevirtual 210, 3) := by decide +kernel
theorem dX12_worked_94 : decode cX12_worked 94 = .ok (.aload_n 0, 1) := by decide +kernel
theorem dX12_worked_95 : decode cX12_worked 95 = .ok (.getfield 69, 3) := by decide +kernel
theorem dX12_worked_98 : decode cX12_worked 98 = .ok (.iload_n 2, 1) := by decide +kernel
theorem dX12_worked_99 : decode cX12_worked 99 = .ok (.iload 4, 2) := by decide +kernel
theorem dX12_worked_101 : decode cX12_worked 101 = .ok (.iastore, 1) := by decide +kernel
theorem dX12_worked_102 : decode cX12_worked 102 = .ok (.goto 227, 3) := by decide +kernel
theorem dX12_worked_105 : decode cX12_worked 105 = .ok (.iload 4, 2) := by decide +kernel
theorem dX12_worked_107 : decode cX12_worked 107 = .ok (.bipush 22, 2) := by decide +kernel
theorem dX12_worked_109 : decode cX12_worked 109 = .ok (.if_icmp .ne 14, 3) := by decide +kernel
theorem dX12_worked_112 : decode cX12_worked 112 = .ok (.aload_n 0, 1) := by decide +kernel
theorem dX12_worked_113 : decode cX12_worked 113 = .ok (.getfield 75, 3) := by decide +kernel
theorem dX12_worked_116 : decode cX12_worked 116 = .ok (.iload_n 2, 1) := by decide +kernel
theorem dX12_worked_117 : decode cX12_worked 117 = .ok (.iload 4, 2) := by decide +kernel
theorem dX12_worked_119 : decode cX12_worked 119 = .ok (.iastore, 1) := by decide +kernel
theorem dX12_worked_120 : decode cX12_worked 120 = .ok (.goto 209, 3) := by decide +kernel
theorem dX12_worked_123 : decode cX12_worked 123 = .ok (.iload 4, 2) := by decide +kernel
theorem dX12_worked_125 : decode cX12_worked 125 = .ok (.bipush 24, 2) := by decide +kernel
theorem dX12_worked_127 : decode cX12_worked 127 = .ok (.if_icmp .eq 10, 3) := by decide +kernel
theorem dX12_worked_130 : decode cX12_worked 130 = .ok (.iload 4, 2) := by decide +kernel
theorem dX12_worked_132 : decode cX12_worked 132 = .ok (.bipush 25, 2) := by decide +kernel
theorem dX12_worked_134 : decode cX12_worked 134 = .ok (.if_icmp .ne 46, 3) := by decide +kernel
theorem dX12_worked_137 : decode cX12_worked 137 = .ok (.aload_n 0, 1) := by decide +kernel
theorem dX12_worked_138 : decode cX12_worked 138 = .ok (.iload_n 2, 1) := by decide +kernel
theorem dX12_worked_139 : decode cX12_worked 139 = .ok (.invokevirtual 210, 3) := by decide +kernel
theorem dX12_worked_142 : decode cX12_worked 142 = .ok (.aload_n 0, 1) := by decide +kernel
theorem dX12_worked_143 : decode cX12_worked 143 = .ok (.getfield 60, 3) := by decide +kernel
theorem dX12_worked_146 : decode cX12_worked 146 = .ok (.iload_n 2, 1) := by decide +kernel
theorem dX12_worked_147 : decode cX12_worked 147 = .ok (.aload_n 0, 1) := by decide +kernel
theorem dX12_worked_148 : decode cX12_worked 148 = .ok (.getfield 66, 3) := by decide +kernel
theorem dX12_worked_151 : decode cX12_worked 151 = .ok (.iload_n 2, 1) := by decide +kernel
theorem dX12_worked_152 : decode cX12_worked 152 = .ok (.iaload, 1) := by decide +kernel
theorem dX12_worked_153 : decode cX12_worked 153 = .ok (.iastore, 1) := by decide +kernel
theorem dX12_worked_154 : decode cX12_worked 154 = .ok (.aload_n 0, 1) := by decide +kernel
theorem dX12_worked_155 : decode cX12_worked 155 = .ok (.getfield 63, 3) := by decide +kernel
theorem dX12_worked_158 : decode cX12_worked 158 = .ok (.iload_n 2, 1) := by decide +kernel
theorem dX12_worked_159 : decode cX12_worked 159 = .ok (.iload 4, 2) := by decide +kernel
theorem dX12_worked_161 : decode cX12_worked 161 = .ok (.iastore, 1) := by decide +kernel
theorem dX12_worked_162 : decode cX12_worked 162 = .ok (.aload_n 0, 1) := by decide +kernel
theorem dX12_worked_163 : decode cX12_worked 163 = .ok (.getfield 66, 3) := by decide +kernel
theorem dX12_worked_166 : decode cX12_worked 166 = .ok (.iload_n 2, 1) := by decide +kernel
theorem dX12_worked_167 : decode cX12_worked 167 = .ok (.iconst 0, 1) := by decide +kernel
theorem dX12_worked_168 : decode cX12_worked 168 = .ok (.iastore, 1) := by decide +kernel
theorem dX12_worked_169 : decode cX12_worked 169 = .ok (.aload_n 0, 1) := by decide +kernel
theorem dX12_worked_170 : decode cX12_worked 170 = .ok (.getfield 69, 3) := by decide +kernel
theorem dX12_worked_173 : decode cX12_worked 173 = .ok (.iload_n 2, 1) := by decide +kernel
theorem dX12_worked_174 : decode cX12_worked 174 = .ok (.bipush 20, 2) := by decide +kernel
theorem dX12_worked_176 : decode cX12_worked 176 = .ok (.iastore, 1) := by decide +kernel
theorem dX12_worked_177 : decode cX12_worked 177 = .ok (.goto 152, 3) := by decide +kernel
theorem dX12_worked_180 : decode cX12_worked 180 = .ok (.iload 4, 2) := by decide +kernel
theorem dX12_worked_182 : decode cX12_worked 182 = .ok (.bipush 26, 2) := by decide +kernel
theorem dX12_worked_184 : decode cX12_worked 184 = .ok (.if_icmp .eq 10, 3) := by decide +kernel
theorem dX12_worked_187 : decode cX12_worked 187 = .ok (.iload 4, 2) := by decide +kernel
theorem dX12_worked_189 : decode cX12_worked 189 = .ok (.bipush 27, 2) := by decide +kernel
theorem dX12_worked_191 : decode cX12_worked 191 = .ok (.if_icmp .ne 19, 3) := by decide +kernel
theorem dX12_worked_194 : decode cX12_worked 194 = .ok (.aload_n 0, 1) := by decide +kernel
theorem dX12_worked_195 : decode cX12_worked 195 = .ok (.iload_n 2, 1) := by decide +kernel
theorem dX12_worked_196 : decode cX12_worked 196 = .ok (.invokevirtual 216, 3) := by decide +kernel
theorem dX12_worked_199 : decode cX12_worked 199 = .ok (.aload_n 0, 1) := by decide +kernel
theorem dX12_worked_200 : decode cX12_worked 200 = .ok (.getfield 57, 3) := by decide +kernel
theorem dX12_worked_203 : decode cX12_worked 203 = .ok (.iload_n 2, 1) := by decide +kernel
theorem dX12_worked_204 : decode cX12_worked 204 = .ok (.iload 4, 2) := by decide +kernel
theorem dX12_worked_206 : decode cX12_worked 206 = .ok (.iastore, 1) := by decide +kernel
theorem dX12_worked_207 : decode cX12_worked 207 = .ok (.goto 122, 3) := by decide +kernel
theorem dX12_worked_210 : decode cX12_worked 210 = .ok (.iload 4, 2) := by decide +kernel
theorem dX12_worked_212 : decode cX12_worked 212 = .ok (.bipush 100, 2) := by decide +kernel
theorem dX12_worked_214 : decode cX12_worked 214 = .ok (.if_icmp .lt 11, 3) := by decide +kernel
theorem dX12_worked_217 : decode cX12_worked 217 = .ok (.iload 4, 2) := by decide +kernel
theorem dX12_worked_219 : decode cX12_worked 219 = .ok (.bipush 100, 2) := by decide +kernel
theorem dX12_worked_221 : decode cX12_worked 221 = .ok (.isub, 1) := by decide +kernel
theorem dX12_worked_222 : decode cX12_worked 222 = .ok (.goto 21, 3) := by decide +kernel
theorem dX12_worked_225 : decode cX12_worked 225 = .ok (.iload 4, 2) := by decide +kernel
theorem dX12_worked_227 : decode cX12_worked 227 = .ok (.bipush 20, 2) := by decide +kernel
theorem dX12_worked_229 : decode cX12_worked 229 = .ok (.if_icmp .ge 13, 3) := by decide +kernel
theorem dX12_worked_232 : decode cX12_worked 232 = .ok (.aload_n 0, 1) := by decide +kernel
theorem dX12_worked_233 : decode cX12_worked 233 = .ok (.getfield 81, 3) := by decide +kernel
theorem dX12_worked_236 : decode cX12_worked 236 = .ok (.iload 4, 2) := by decide +kernel
theorem dX12_worked_238 : decode cX12_worked 238 = .ok (.iaload, 1) := by decide +kernel
theorem dX12_worked_239 : decode cX12_worked 239 = .ok (.goto 4, 3) := by decide +kernel
theorem dX12_worked_242 : decode cX12_worked 242 = .ok (.iconst 0, 1) := by decide +kernel
theorem dX12_worked_243 : decode cX12_worked 243 = .ok (.istore 5, 2) := by decide +kernel
theorem dX12_worked_245 : decode cX12_worked 245 = .ok (.iload 4, 2) := by decide +kernel
theorem dX12_worked_247 : decode cX12_worked 247 = .ok (.bipush 29, 2) := by decide +kernel
theorem dX12_worked_249 : decode cX12_worked 249 = .ok (.if_icmp .ne 19, 3) := by decide +kernel
theorem dX12_worked_252 : decode cX12_worked 252 = .ok (.aload_n 0, 1) := by decide +kernel
theorem dX12_worked_253 : decode cX12_worked 253 = .ok (.iload_n 2, 1) := by decide +kernel
theorem dX12_worked_254 : decode cX12_worked 254 = .ok (.invokevirtual 216, 3) := by decide +kernel
theorem dX12_worked_257 : decode cX12_worked 257 = .ok (.aload_n 0, 1) := by decide +kernel
theorem dX12_worked_258 : decode cX12_worked 258 = .ok (.getfield 54, 3) := by decide +kernel
theorem dX12_worked_261 : decode cX12_worked 261 = .ok (.iload_n 2, 1) := by decide +kernel
theorem dX12_worked_262 : decode cX12_worked 262 = .ok (.iaload, 1) := by decide +kernel
theorem dX12_worked_263 : decode cX12_worked 263 = .ok (.istore 5, 2) := by decide +kernel
theorem dX12_worked_265 : decode cX12_worked 265 = .ok (.iinc 2 (-1), 3) := by decide +kernel
theorem dX12_worked_268 : decode cX12_worked 268 = .ok (.iload_n 2, 1) := by decide +kernel
theorem dX12_worked_269 : decode cX12_worked 269 = .ok (.ifCond .le 31, 3) := by decide +kernel
theorem dX12_worked_272 : decode cX12_worked 272 = .ok (.aload_n 0, 1) := by decide +kernel
theorem dX12_worked_273 : decode cX12_worked 273 = .ok (.getfield 78, 3) := by decide +kernel
theorem dX12_worked_276 : decode cX12_worked 276 = .ok (.iload_n 2, 1) := by decide +kernel
theorem dX12_worked_277 : decode cX12_worked 277 = .ok (.iaload, 1) := by decide +kernel
theorem dX12_worked_278 : decode cX12_worked 278 = .ok (.iconst 1, 1) := by decide +kernel
theorem dX12_worked_279 : decode cX12_worked 279 = .ok (.if_icmp .ne 21, 3) := by decide +kernel
theorem dX12_worked_282 : decode cX12_worked 282 = .ok (.iload 5, 2) := by decide +kernel
theorem dX12_worked_284 : decode cX12_worked 284 = .ok (.ifCond .ne 7, 3) := by decide +kernel
theorem dX12_worked_287 : decode cX12_worked 287 = .ok (.iconst 1, 1) := by decide +kernel
theorem dX12_worked_288 : decode cX12_worked 288 = .ok (.goto 4, 3) := by decide +kernel
theorem dX12_worked_291 : decode cX12_worked 291 = .ok (.iconst 0, 1) := by decide +kernel
theorem dX12_worked_292 : decode cX12_worked 292 = .ok (.istore 5, 2) := by decide +kernel
theorem dX12_worked_294 : decode cX12_worked 294 = .ok (.iinc 2 (-1), 3) := by decide +kernel
theorem dX12_worked_297 : decode cX12_worked 297 = .ok (.goto (-29), 3) := by decide +kernel
theorem dX12_worked_300 : decode cX12_worked 300 = .ok (.aload_n 0, 1) := by decide +kernel
theorem dX12_worked_301 : decode cX12_worked 301 = .ok (.getfield 72, 3) := by decide +kernel
theorem dX12_worked_304 : decode cX12_worked 304 = .ok (.iload_n 2, 1) := by decide +kernel
theorem dX12_worked_305 : decode cX12_worked 305 = .ok (.aload_n 0, 1) := by decide +kernel
theorem dX12_worked_306 : decode cX12_worked 306 = .ok (.getfield 75, 3) := by decide +kernel
theorem dX12_worked_309 : decode cX12_worked 309 = .ok (.iload_n 2, 1) := by decide +kernel
theorem dX12_worked_310 : decode cX12_worked 310 = .ok (.iaload, 1) := by decide +kernel
theorem dX12_worked_311 : decode cX12_worked 311 = .ok (.ifCond .ne 8, 3) := by decide +kernel
theorem dX12_worked_314 : decode cX12_worked 314 = .ok (.iload 5, 2) := by decide +kernel
theorem dX12_worked_316 : decode cX12_worked 316 = .ok (.goto 12, 3) := by decide +kernel
theorem dX12_worked_319 : decode cX12_worked 319 = .ok (.aload_n 0, 1) := by decide +kernel
theorem dX12_worked_320 : decode cX12_worked 320 = .ok (.getfield 72, 3) := by decide +kernel
theorem dX12_worked_323 : decode cX12_worked 323 = .ok (.iload_n 2, 1) := by decide +kernel
theorem dX12_worked_324 : decode cX12_worked 324 = .ok (.iaload, 1) := by decide +kernel
theorem dX12_worked_325 : decode cX12_worked 325 = .ok (.iload 5, 2) := by decide +kernel
theorem dX12_worked_327 : decode cX12_worked 327 = .ok (.imul, 1) := by decide +kernel
theorem dX12_worked_328 : decode cX12_worked 328 = .ok (.iastore, 1) := by decide +kernel
theorem dX12_worked_329 : decode cX12_worked 329 = .ok (.iinc 3 1, 3) := by decide +kernel
theorem dX12_worked_332 : decode cX12_worked 332 = .ok (.goto (-318), 3) := by decide +kernel
theorem dX12_worked_335 : decode cX12_worked 335 = .ok (.aload_n 0, 1) := by decide +kernel
theorem dX12_worked_336 : decode cX12_worked 336 = .ok (.iconst 0, 1) := by decide +kernel
theorem dX12_worked_337 : decode cX12_worked 337 = .ok (.invokevirtual 216, 3) := by decide +kernel
theorem dX12_worked_340 : decode cX12_worked 340 = .ok (.aload_n 0, 1) := by decide +kernel
theorem dX12_worked_341 : decode cX12_worked 341 = .ok (.getfield 54, 3) := by decide +kernel
theorem dX12_worked_344 : decode cX12_worked 344 = .ok (.iconst 0, 1) := by decide +kernel
theorem dX12_worked_345 : decode cX12_worked 345 = .ok (.iaload, 1) := by decide +kernel
theorem dX12_worked_346 : decode cX12_worked 346 = .ok (.ireturn, 1) := by decide +kernel
theorem dX12_isKept_0 : decode cX12_isKept 0 = .ok (.aload_n 0, 1) := by decide +kernel
theorem dX12_isKept_1 : decode cX12_isKept 1 = .ok (.getfield 158, 3) := by decide +kernel
theorem dX12_isKept_4 : decode cX12_isKept 4 = .ok (.iconst 1, 1) := by decide +kernel
theorem dX12_isKept_5 : decode cX12_isKept 5 = .ok (.if_icmp .eq 5, 3) := by decide +kernel
theorem dX12_isKept_8 : decode cX12_isKept 8 = .ok (.iconst 1, 1) := by decide +kernel
theorem dX12_isKept_9 : decode cX12_isKept 9 = .ok (.ireturn, 1) := by decide +kernel
theorem dX12_isKept_10 : decode cX12_isKept 10 = .ok (.aload_n 0, 1) := by decide +kernel
theorem dX12_isKept_11 : decode cX12_isKept 11 = .ok (.getfield 151, 3) := by decide +kernel
theorem dX12_isKept_14 : decode cX12_isKept 14 = .ok (.ldc2_w 219, 3) := by decide +kernel
theorem dX12_isKept_17 : decode cX12_isKept 17 = .ok (.lcmp, 1) := by decide +kernel
theorem dX12_isKept_18 : decode cX12_isKept 18 = .ok (.ifCond .eq 212, 3) := by decide +kernel
theorem dX12_isKept_21 : decode cX12_isKept 21 = .ok (.aload_n 0, 1) := by decide +kernel
theorem dX12_isKept_22 : decode cX12_isKept 22 = .ok (.getfield 151, 3) := by decide +kernel
theorem dX12_isKept_25 : decode cX12_isKept 25 = .ok (.ldc2_w 221, 3) := by decide +kernel
theorem dX12_isKept_28 : decode cX12_isKept 28 = .ok (.lcmp, 1) := by decide +kernel
theorem dX12_isKept_29 : decode cX12_isKept 29 = .ok (.ifCond .eq 201, 3) := by decide +kernel
theorem dX12_isKept_32 : decode cX12_isKept 32 = .ok (.aload_n 0, 1) := by decide +kernel
theorem dX12_isKept_33 : decode cX12_isKept 33 = .ok (.getfield 151, 3) := by decide +kernel
theorem dX12_isKept_36 : decode cX12_isKept 36 = .ok (.ldc2_w 223, 3) := by decide +kernel
theorem dX12_isKept_39 : decode cX12_isKept 39 = .ok (.lcmp, 1) := by decide +kernel
theorem dX12_isKept_40 : decode cX12_isKept 40 = .ok (.ifCond .eq 190, 3) := by decide +kernel
theorem dX12_isKept_43 : decode cX12_isKept 43 = .ok (.aload_n 0, 1) := by decide +kernel
theorem dX12_isKept_44 : decode cX12_isKept 44 = .ok (.getfield 151, 3) := by decide +kernel
theorem dX12_isKept_47 : decode cX12_isKept 47 = .ok (.ldc2_w 225, 3) := by decide +kernel
theorem dX12_isKept_50 : decode cX12_isKept 50 = .ok (.lcmp, 1) := by decide +kernel
theorem dX12_isKept_51 : decode cX12_isKept 51 = .ok (.ifCond .eq 179, 3) := by decide +kernel
theorem dX12_isKept_54 : decode cX12_isKept 54 = .ok (.aload_n 0, 1) := by decide +kernel
theorem dX12_isKept_55 : decode cX12_isKept 55 = .ok (.getfield 151, 3) := by decide +kernel
theorem dX12_isKept_58 : decode cX12_isKept 58 = .ok (.ldc2_w 227, 3) := by decide +kernel
theorem dX12_isKept_61 : decode cX12_isKept 61 = .ok (.lcmp, 1) := by decide +kernel
theorem dX12_isKept_62 : decode cX12_isKept 62 = .ok (.ifCond .eq 168, 3) := by decide +kernel
theorem dX12_isKept_65 : decode cX12_isKept 65 = .ok (.aload_n 0, 1) := by decide +kernel
theorem dX12_isKept_66 : decode cX12_isKept 66 = .ok (.getfield 151, 3) := by decide +kernel
theorem dX12_isKept_69 : decode cX12_isKept 69 = .ok (.ldc2_w 229, 3) := by decide +kernel
theorem dX12_isKept_72 : decode cX12_isKept 72 = .ok (.lcmp, 1) := by decide +kernel
theorem dX12_isKept_73 : decode cX12_isKept 73 = .ok (.ifCond .eq 157, 3) := by decide +kernel
theorem dX12_isKept_76 : decode cX12_isKept 76 = .ok (.aload_n 0, 1) := by decide +kernel
theorem dX12_isKept_77 : decode cX12_isKept 77 = .ok (.getfield 151, 3) := by decide +kernel
theorem dX12_isKept_80 : decode cX12_isKept 80 = .ok (.ldc2_w 231, 3) := by decide +kernel
theorem dX12_isKept_83 : decode cX12_isKept 83 = .ok (.lcmp, 1) := by decide +kernel
theorem dX12_isKept_84 : decode cX12_isKept 84 = .ok (.ifCond .eq 146, 3) := by decide +kernel
theorem dX12_isKept_87 : decode cX12_isKept 87 = .ok (.aload_n 0, 1) := by decide +kernel
theorem dX12_isKept_88 : decode cX12_isKept 88 = .ok (.getfield 151, 3) := by decide +kernel
theorem dX12_isKept_91 : decode cX12_isKept 91 = .ok (.ldc2_w 233, 3) := by decide +kernel
theorem dX12_isKept_94 : decode cX12_isKept 94 = .ok (.lcmp, 1) := by decide +kernel
theorem dX12_isKept_95 : decode cX12_isKept 95 = .ok (.ifCond .eq 135, 3) := by decide +kernel
theorem dX12_isKept_98 : decode cX12_isKept 98 = .ok (.aload_n 0, 1) := by decide +kernel
theorem dX12_isKept_99 : decode cX12_isKept 99 = .ok (.getfield 151, 3) := by decide +kernel
theorem dX12_isKept_102 : decode cX12_isKept 102 = .ok (.ldc2_w 235, 3) := by decide +kernel
theorem dX12_isKept_105 : decode cX12_isKept 105 = .ok (.lcmp, 1) := by decide +kernel
theorem dX12_isKept_106 : decode cX12_isKept 106 = .ok (.ifCond .eq 124, 3) := by decide +kernel
theorem dX12_isKept_109 : decode cX12_isKept 109 = .ok (.aload_n 0, 1) := by decide +kernel
theorem dX12_isKept_110 : decode cX12_isKept 110 = .ok (.getfield 151, 3) := by decide +kernel
theorem dX12_isKept_113 : decode cX12_isKept 113 = .ok (.ldc2_w 237, 3) := by decide +kernel
theorem dX12_isKept_116 : decode cX12_isKept 116 = .ok (.lcmp, 1) := by decide +kernel
theorem dX12_isKept_117 : decode cX12_isKept 117 = .ok (.ifCond .eq 113, 3) := by decide +kernel
theorem dX12_isKept_120 : decode cX12_isKept 120 = .ok (.aload_n 0, 1) := by decide +kernel
theorem dX12_isKept_121 : decode cX12_isKept 121 = .ok (.getfield 151, 3) := by decide +kernel
theorem dX12_isKept_124 : decode cX12_isKept 124 = .ok (.ldc2_w 239, 3) := by decide +kernel
theorem dX12_isKept_127 : decode cX12_isKept 127 = .ok (.lcmp, 1) := by decide +kernel
theorem dX12_isKept_128 : decode cX12_isKept 128 = .ok (.ifCond .eq 102, 3) := by decide +kernel
theorem dX12_isKept_131 : decode cX12_isKept 131 = .ok (.aload_n 0, 1) := by decide +kernel
theorem dX12_isKept_132 : decode cX12_isKept 132 = .ok (.getfield 151, 3) := by decide +kernel
theorem dX12_isKept_135 : decode cX12_isKept 135 = .ok (.ldc2_w 241, 3) := by decide +kernel
theorem dX12_isKept_138 : decode cX12_isKept 138 = .ok (.lcmp, 1) := by decide +kernel
theorem dX12_isKept_139 : decode cX12_isKept 139 = .ok (.ifCond .eq 91, 3) := by decide +kernel
theorem dX12_isKept_142 : decode cX12_isKept 142 = .ok (.aload_n 0, 1) := by decide +kernel
theorem dX12_isKept_143 : decode cX12_isKept 143 = .ok (.getfield 151, 3) := by decide +kernel
theorem dX12_isKept_146 : decode cX12_isKept 146 = .ok (.ldc2_w 243, 3) := by decide +kernel
theorem dX12_isKept_149 : decode cX12_isKept 149 = .ok (.lcmp, 1) := by decide +kernel
theorem dX12_isKept_150 : decode cX12_isKept 150 = .ok (.ifCond .eq 80, 3) := by decide +kernel
theorem dX12_isKept_153 : decode cX12_isKept 153 = .ok (.aload_n 0, 1) := by decide +kernel
theorem dX12_isKept_154 : decode cX12_isKept 154 = .ok (.getfield 151, 3) := by decide +kernel
theorem dX12_isKept_157 : decode cX12_isKept 157 = .ok (.ldc2_w 245, 3) := by decide +kernel
theorem dX12_isKept_160 : decode cX12_isKept 160 = .ok (.lcmp, 1) := by decide +kernel
theorem dX12_isKept_161 : decode cX12_isKept 161 = .ok (.ifCond .eq 69, 3) := by decide +kernel
theorem dX12_isKept_164 : decode cX12_isKept 164 = .ok (.aload_n 0, 1) := by decide +kernel
theorem dX12_isKept_165 : decode cX12_isKept 165 = .ok (.getfield 151, 3) := by decide +kernel
theorem dX12_isKept_168 : decode cX12_isKept 168 = .ok (.ldc2_w 247, 3) := by decide +kernel
theorem dX12_isKept_171 : decode cX12_isKept 171 = .ok (.lcmp, 1) := by decide +kernel
theorem dX12_isKept_172 : decode cX12_isKept 172 = .ok (.ifCond .eq 58, 3) := by decide +kernel
theorem dX12_isKept_175 : decode cX12_isKept 175 = .ok (.aload_n 0, 1) := by decide +kernel
theorem dX12_isKept_176 : decode cX12_isKept 176 = .ok (.getfield 151, 3) := by decide +kernel
theorem dX12_isKept_179 : decode cX12_isKept 179 = .ok (.ldc2_w 249, 3) := by decide +kernel
theorem dX12_isKept_182 : decode cX12_isKept 182 = .ok (.lcmp, 1) := by decide +kernel
theorem dX12_isKept_183 : decode cX12_isKept 183 = .ok (.ifCond .eq 47, 3) := by decide +kernel
theorem dX12_isKept_186 : decode cX12_isKept 186 = .ok (.aload_n 0, 1) := by decide +kernel
theorem dX12_isKept_187 : decode cX12_isKept 187 = .ok (.getfield 151, 3) := by decide +kernel
theorem dX12_isKept_190 : decode cX12_isKept 190 = .ok (.ldc2_w 251, 3) := by decide +kernel
theorem dX12_isKept_193 : decode cX12_isKept 193 = .ok (.lcmp, 1) := by decide +kernel
theorem dX12_isKept_194 : decode cX12_isKept 194 = .ok (.ifCond .eq 36, 3) := by decide +kernel
theorem dX12_isKept_197 : decode cX12_isKept 197 = .ok (.aload_n 0, 1) := by decide +kernel
theorem dX12_isKept_198 : decode cX12_isKept 198 = .ok (.getfield 151, 3) := by decide +kernel
theorem dX12_isKept_201 : decode cX12_isKept 201 = .ok (.ldc2_w 187, 3) := by decide +kernel
theorem dX12_isKept_204 : decode cX12_isKept 204 = .ok (.lcmp, 1) := by decide +kernel
theorem dX12_isKept_205 : decode cX12_isKept 205 = .ok (.ifCond .eq 25, 3) := by decide +kernel
theorem dX12_isKept_208 : decode cX12_isKept 208 = .ok (.aload_n 0, 1) := by decide +kernel
theorem dX12_isKept_209 : decode cX12_isKept 209 = .ok (.getfield 151, 3) := by decide +kernel
theorem dX12_isKept_212 : decode cX12_isKept 212 = .ok (.ldc2_w 206, 3) := by decide +kernel
theorem dX12_isKept_215 : decode cX12_isKept 215 = .ok (.lcmp, 1) := by decide +kernel
theorem dX12_isKept_216 : decode cX12_isKept 216 = .ok (.ifCond .eq 14, 3) := by decide +kernel
theorem dX12_isKept_219 : decode cX12_isKept 219 = .ok (.aload_n 0, 1) := by decide +kernel
theorem dX12_isKept_220 : decode cX12_isKept 220 = .ok (.getfield 151, 3) := by decide +kernel
theorem dX12_isKept_223 : decode cX12_isKept 223 = .ok (.ldc2_w 208, 3) := by decide +kernel
theorem dX12_isKept_226 : decode cX12_isKept 226 = .ok (.lcmp, 1) := by decide +kernel
theorem dX12_isKept_227 : decode cX12_isKept 227 = .ok (.ifCond .ne 7, 3) := by decide +kernel
theorem dX12_isKept_230 : decode cX12_isKept 230 = .ok (.iconst 1, 1) := by decide +kernel
theorem dX12_isKept_231 : decode cX12_isKept 231 = .ok (.goto 4, 3) := by decide +kernel
theorem dX12_isKept_234 : decode cX12_isKept 234 = .ok (.iconst 0, 1) := by decide +kernel
theorem dX12_isKept_235 : decode cX12_isKept 235 = .ok (.ireturn, 1) := by decide +kernel
theorem dX12_wareNamed_0 : decode cX12_wareNamed 0 = .ok (.bipush 6, 2) := by decide +kernel
theorem dX12_wareNamed_2 : decode cX12_wareNamed 2 = .ok (.iload_n 1, 1) := by decide +kernel
theorem dX12_wareNamed_3 : decode cX12_wareNamed 3 = .ok (.imul, 1) := by decide +kernel
theorem dX12_wareNamed_4 : decode cX12_wareNamed 4 = .ok (.istore_n 2, 1) := by decide +kernel
theorem dX12_wareNamed_5 : decode cX12_wareNamed 5 = .ok (.iload_n 2, 1) := by decide +kernel
theorem dX12_wareNamed_6 : decode cX12_wareNamed 6 = .ok (.bipush 6, 2) := by decide +kernel
theorem dX12_wareNamed_8 : decode cX12_wareNamed 8 = .ok (.iload_n 1, 1) := by decide +kernel
theorem dX12_wareNamed_9 : decode cX12_wareNamed 9 = .ok (.imul, 1) := by decide +kernel
theorem dX12_wareNamed_10 : decode cX12_wareNamed 10 = .ok (.aload_n 0, 1) := by decide +kernel
theorem dX12_wareNamed_11 : decode cX12_wareNamed 11 = .ok (.getfield 13, 3) := by decide +kernel
theorem dX12_wareNamed_14 : decode cX12_wareNamed 14 = .ok (.iconst 3, 1) := by decide +kernel
theorem dX12_wareNamed_15 : decode cX12_wareNamed 15 = .ok (.iload_n 1, 1) := by decide +kernel
theorem dX12_wareNamed_16 : decode cX12_wareNamed 16 = .ok (.imul, 1) := by decide +kernel
theorem dX12_wareNamed_17 : decode cX12_wareNamed 17 = .ok (.iconst 0, 1) := by decide +kernel
theorem dX12_wareNamed_18 : decode cX12_wareNamed 18 = .ok (.iadd, 1) := by decide +kernel
theorem dX12_wareNamed_19 : decode cX12_wareNamed 19 = .ok (.iaload, 1) := by decide +kernel
theorem dX12_wareNamed_20 : decode cX12_wareNamed 20 = .ok (.iadd, 1) := by decide +kernel
theorem dX12_wareNamed_21 : decode cX12_wareNamed 21 = .ok (.if_icmp .ge 30, 3) := by decide +kernel
theorem dX12_wareNamed_24 : decode cX12_wareNamed 24 = .ok (.aload_n 0, 1) := by decide +kernel
theorem dX12_wareNamed_25 : decode cX12_wareNamed 25 = .ok (.getfield 16, 3) := by decide +kernel
theorem dX12_wareNamed_28 : decode cX12_wareNamed 28 = .ok (.iload_n 2, 1) := by decide +kernel
theorem dX12_wareNamed_29 : decode cX12_wareNamed 29 = .ok (.laload, 1) := by decide +kernel
theorem dX12_wareNamed_30 : decode cX12_wareNamed 30 = .ok (.aload_n 0, 1) := by decide +kernel
theorem dX12_wareNamed_31 : decode cX12_wareNamed 31 = .ok (.getfield 151, 3) := by decide +kernel
theorem dX12_wareNamed_34 : decode cX12_wareNamed 34 = .ok (.lcmp, 1) := by decide +kernel
theorem dX12_wareNamed_35 : decode cX12_wareNamed 35 = .ok (.ifCond .ne 10, 3) := by decide +kernel
theorem dX12_wareNamed_38 : decode cX12_wareNamed 38 = .ok (.iload_n 2, 1) := by decide +kernel
theorem dX12_wareNamed_39 : decode cX12_wareNamed 39 = .ok (.bipush 6, 2) := by decide +kernel
theorem dX12_wareNamed_41 : decode cX12_wareNamed 41 = .ok (.iload_n 1, 1) := by decide +kernel
theorem dX12_wareNamed_42 : decode cX12_wareNamed 42 = .ok (.imul, 1) := by decide +kernel
theorem dX12_wareNamed_43 : decode cX12_wareNamed 43 = .ok (.isub, 1) := by decide +kernel
theorem dX12_wareNamed_44 : decode cX12_wareNamed 44 = .ok (.ireturn, 1) := by decide +kernel
theorem dX12_wareNamed_45 : decode cX12_wareNamed 45 = .ok (.iinc 2 1, 3) := by decide +kernel
theorem dX12_wareNamed_48 : decode cX12_wareNamed 48 = .ok (.goto (-43), 3) := by decide +kernel
theorem dX12_wareNamed_51 : decode cX12_wareNamed 51 = .ok (.iconst (-1), 1) := by decide +kernel
theorem dX12_wareNamed_52 : decode cX12_wareNamed 52 = .ok (.ireturn, 1) := by decide +kernel
theorem dX12_partyNamed_0 : decode cX12_partyNamed 0 = .ok (.iconst 5, 1) := by decide +kernel
theorem dX12_partyNamed_1 : decode cX12_partyNamed 1 = .ok (.iload_n 1, 1) := by decide +kernel
theorem dX12_partyNamed_2 : decode cX12_partyNamed 2 = .ok (.imul, 1) := by decide +kernel
theorem dX12_partyNamed_3 : decode cX12_partyNamed 3 = .ok (.istore_n 2, 1) := by decide +kernel
theorem dX12_partyNamed_4 : decode cX12_partyNamed 4 = .ok (.iload_n 2, 1) := by decide +kernel
theorem dX12_partyNamed_5 : decode cX12_partyNamed 5 = .ok (.iconst 5, 1) := by decide +kernel
theorem dX12_partyNamed_6 : decode cX12_partyNamed 6 = .ok (.iload_n 1, 1) := by decide +kernel
theorem dX12_partyNamed_7 : decode cX12_partyNamed 7 = .ok (.imul, 1) := by decide +kernel
theorem dX12_partyNamed_8 : decode cX12_partyNamed 8 = .ok (.aload_n 0, 1) := by decide +kernel
theorem dX12_partyNamed_9 : decode cX12_partyNamed 9 = .ok (.getfield 13, 3) := by decide +kernel
theorem dX12_partyNamed_12 : decode cX12_partyNamed 12 = .ok (.iconst 3, 1) := by decide +kernel
theorem dX12_partyNamed_13 : decode cX12_partyNamed 13 = .ok (.iload_n 1, 1) := by decide +kernel
theorem dX12_partyNamed_14 : decode cX12_partyNamed 14 = .ok (.imul, 1) := by decide +kernel
theorem dX12_partyNamed_15 : decode cX12_partyNamed 15 = .ok (.iconst 1, 1) := by decide +kernel
theorem dX12_partyNamed_16 : decode cX12_partyNamed 16 = .ok (.iadd, 1) := by decide +kernel
theorem dX12_partyNamed_17 : decode cX12_partyNamed 17 = .ok (.iaload, 1) := by decide +kernel
theorem dX12_partyNamed_18 : decode cX12_partyNamed 18 = .ok (.iadd, 1) := by decide +kernel
theorem dX12_partyNamed_19 : decode cX12_partyNamed 19 = .ok (.if_icmp .ge 29, 3) := by decide +kernel
theorem dX12_partyNamed_22 : decode cX12_partyNamed 22 = .ok (.aload_n 0, 1) := by decide +kernel
theorem dX12_partyNamed_23 : decode cX12_partyNamed 23 = .ok (.getfield 20, 3) := by decide +kernel
theorem dX12_partyNamed_26 : decode cX12_partyNamed 26 = .ok (.iload_n 2, 1) := by decide +kernel
theorem dX12_partyNamed_27 : decode cX12_partyNamed 27 = .ok (.laload, 1) := by decide +kernel
theorem dX12_partyNamed_28 : decode cX12_partyNamed 28 = .ok (.aload_n 0, 1) := by decide +kernel
theorem dX12_partyNamed_29 : decode cX12_partyNamed 29 = .ok (.getfield 151, 3) := by decide +kernel
theorem dX12_partyNamed_32 : decode cX12_partyNamed 32 = .ok (.lcmp, 1) := by decide +kernel
theorem dX12_partyNamed_33 : decode cX12_partyNamed 33 = .ok (.ifCond .ne 9, 3) := by decide +kernel
theorem dX12_partyNamed_36 : decode cX12_partyNamed 36 = .ok (.iload_n 2, 1) := by decide +kernel
theorem dX12_partyNamed_37 : decode cX12_partyNamed 37 = .ok (.iconst 5, 1) := by decide +kernel
theorem dX12_partyNamed_38 : decode cX12_partyNamed 38 = .ok (.iload_n 1, 1) := by decide +kernel
theorem dX12_partyNamed_39 : decode cX12_partyNamed 39 = .ok (.imul, 1) := by decide +kernel
theorem dX12_partyNamed_40 : decode cX12_partyNamed 40 = .ok (.isub, 1) := by decide +kernel
theorem dX12_partyNamed_41 : decode cX12_partyNamed 41 = .ok (.ireturn, 1) := by decide +kernel
theorem dX12_partyNamed_42 : decode cX12_partyNamed 42 = .ok (.iinc 2 1, 3) := by decide +kernel
theorem dX12_partyNamed_45 : decode cX12_partyNamed 45 = .ok (.goto (-41), 3) := by decide +kernel
theorem dX12_partyNamed_48 : decode cX12_partyNamed 48 = .ok (.iconst (-1), 1) := by decide +kernel
theorem dX12_partyNamed_49 : decode cX12_partyNamed 49 = .ok (.ireturn, 1) := by decide +kernel
theorem dX12_needsNumber_0 : decode cX12_needsNumber 0 = .ok (.aload_n 0, 1) := by decide +kernel
theorem dX12_needsNumber_1 : decode cX12_needsNumber 1 = .ok (.getfield 158, 3) := by decide +kernel
theorem dX12_needsNumber_4 : decode cX12_needsNumber 4 = .ok (.iconst 2, 1) := by decide +kernel
theorem dX12_needsNumber_5 : decode cX12_needsNumber 5 = .ok (.if_icmp .eq 9, 3) := by decide +kernel
theorem dX12_needsNumber_8 : decode cX12_needsNumber 8 = .ok (.aload_n 0, 1) := by decide +kernel
theorem dX12_needsNumber_9 : decode cX12_needsNumber 9 = .ok (.iconst 1, 1) := by decide +kernel
theorem dX12_needsNumber_10 : decode cX12_needsNumber 10 = .ok (.invokevirtual 197, 3) := by decide +kernel
theorem dX12_needsNumber_13 : decode cX12_needsNumber 13 = .ok (.ireturn, 1) := by decide +kernel
theorem dX12_needsNumber_14 : decode cX12_needsNumber 14 = .ok (.aload_n 0, 1) := by decide +kernel
theorem dX12_needsNumber_15 : decode cX12_needsNumber 15 = .ok (.getfield 155, 3) := by decide +kernel
theorem dX12_needsNumber_18 : decode cX12_needsNumber 18 = .ok (.iload_n 1, 1) := by decide +kernel
theorem dX12_needsNumber_19 : decode cX12_needsNumber 19 = .ok (.iload_n 2, 1) := by decide +kernel
theorem dX12_needsNumber_20 : decode cX12_needsNumber 20 = .ok (.invokestatic 253, 3) := by decide +kernel
theorem dX12_needsNumber_23 : decode cX12_needsNumber 23 = .ok (.ifCond .ne 9, 3) := by decide +kernel
theorem dX12_needsNumber_26 : decode cX12_needsNumber 26 = .ok (.aload_n 0, 1) := by decide +kernel
theorem dX12_needsNumber_27 : decode cX12_needsNumber 27 = .ok (.iconst 4, 1) := by decide +kernel
theorem dX12_needsNumber_28 : decode cX12_needsNumber 28 = .ok (.invokevirtual 197, 3) := by decide +kernel
theorem dX12_needsNumber_31 : decode cX12_needsNumber 31 = .ok (.ireturn, 1) := by decide +kernel
theorem dX12_needsNumber_32 : decode cX12_needsNumber 32 = .ok (.aload_n 0, 1) := by decide +kernel
theorem dX12_needsNumber_33 : decode cX12_needsNumber 33 = .ok (.aload_n 0, 1) := by decide +kernel
theorem dX12_needsNumber_34 : decode cX12_needsNumber 34 = .ok (.getfield 155, 3) := by decide +kernel
theorem dX12_needsNumber_37 : decode cX12_needsNumber 37 = .ok (.putfield 257, 3) := by decide +kernel
theorem dX12_needsNumber_40 : decode cX12_needsNumber 40 = .ok (.aload_n 0, 1) := by decide +kernel
theorem dX12_needsNumber_41 : decode cX12_needsNumber 41 = .ok (.invokevirtual 203, 3) := by decide +kernel
theorem dX12_needsNumber_44 : decode cX12_needsNumber 44 = .ok (.iconst 1, 1) := by decide +kernel
theorem dX12_needsNumber_45 : decode cX12_needsNumber 45 = .ok (.ireturn, 1) := by decide +kernel
theorem dX12_needsBoth_0 : decode cX12_needsBoth 0 = .ok (.aload_n 0, 1) := by decide +kernel
theorem dX12_needsBoth_1 : decode cX12_needsBoth 1 = .ok (.lload_n 1, 1) := by decide +kernel
theorem dX12_needsBoth_2 : decode cX12_needsBoth 2 = .ok (.invokevirtual 189, 3) := by decide +kernel
theorem dX12_needsBoth_5 : decode cX12_needsBoth 5 = .ok (.ifCond .ne 9, 3) := by decide +kernel
theorem dX12_needsBoth_8 : decode cX12_needsBoth 8 = .ok (.aload_n 0, 1) := by decide +kernel
theorem dX12_needsBoth_9 : decode cX12_needsBoth 9 = .ok (.iconst 1, 1) := by decide +kernel
theorem dX12_needsBoth_10 : decode cX12_needsBoth 10 = .ok (.invokevirtual 197, 3) := by decide +kernel
theorem dX12_needsBoth_13 : decode cX12_needsBoth 13 = .ok (.ireturn, 1) := by decide +kernel
theorem dX12_needsBoth_14 : decode cX12_needsBoth 14 = .ok (.aload_n 0, 1) := by decide +kernel
theorem dX12_needsBoth_15 : decode cX12_needsBoth 15 = .ok (.invokevirtual 203, 3) := by decide +kernel
theorem dX12_needsBoth_18 : decode cX12_needsBoth 18 = .ok (.aload_n 0, 1) := by decide +kernel
theorem dX12_needsBoth_19 : decode cX12_needsBoth 19 = .ok (.iload_n 3, 1) := by decide +kernel
theorem dX12_needsBoth_20 : decode cX12_needsBoth 20 = .ok (.iload 4, 2) := by decide +kernel
theorem dX12_needsBoth_22 : decode cX12_needsBoth 22 = .ok (.invokevirtual 260, 3) := by decide +kernel
theorem dX12_needsBoth_25 : decode cX12_needsBoth 25 = .ok (.ireturn, 1) := by decide +kernel
theorem dX12_closes_0 : decode cX12_closes 0 = .ok (.aload_n 0, 1) := by decide +kernel
theorem dX12_closes_1 : decode cX12_closes 1 = .ok (.bipush 59, 2) := by decide +kernel
theorem dX12_closes_3 : decode cX12_closes 3 = .ok (.invokevirtual 193, 3) := by decide +kernel
theorem dX12_closes_6 : decode cX12_closes 6 = .ok (.ifCond .ne 9, 3) := by decide +kernel
theorem dX12_closes_9 : decode cX12_closes 9 = .ok (.aload_n 0, 1) := by decide +kernel
theorem dX12_closes_10 : decode cX12_closes 10 = .ok (.iconst 1, 1) := by decide +kernel
theorem dX12_closes_11 : decode cX12_closes 11 = .ok (.invokevirtual 197, 3) := by decide +kernel
theorem dX12_closes_14 : decode cX12_closes 14 = .ok (.ireturn, 1) := by decide +kernel
theorem dX12_closes_15 : decode cX12_closes 15 = .ok (.aload_n 0, 1) := by decide +kernel
theorem dX12_closes_16 : decode cX12_closes 16 = .ok (.invokevirtual 203, 3) := by decide +kernel
theorem dX12_closes_19 : decode cX12_closes 19 = .ok (.iconst 1, 1) := by decide +kernel
theorem dX12_closes_20 : decode cX12_closes 20 = .ok (.ireturn, 1) := by decide +kernel
theorem dX12_needsNew_0 : decode cX12_needsNew 0 = .ok (.aload_n 0, 1) := by decide +kernel
theorem dX12_needsNew_1 : decode cX12_needsNew 1 = .ok (.invokevirtual 264, 3) := by decide +kernel
theorem dX12_needsNew_4 : decode cX12_needsNew 4 = .ok (.ifCond .eq 9, 3) := by decide +kernel
theorem dX12_needsNew_7 : decode cX12_needsNew 7 = .ok (.aload_n 0, 1) := by decide +kernel
theorem dX12_needsNew_8 : decode cX12_needsNew 8 = .ok (.iconst 1, 1) := by decide +kernel
theorem dX12_needsNew_9 : decode cX12_needsNew 9 = .ok (.invokevirtual 197, 3) := by decide +kernel
theorem dX12_needsNew_12 : decode cX12_needsNew 12 = .ok (.ireturn, 1) := by decide +kernel
theorem dX12_needsNew_13 : decode cX12_needsNew 13 = .ok (.aload_n 0, 1) := by decide +kernel
theorem dX12_needsNew_14 : decode cX12_needsNew 14 = .ok (.iconst 1, 1) := by decide +kernel
theorem dX12_needsNew_15 : decode cX12_needsNew 15 = .ok (.invokevirtual 268, 3) := by decide +kernel
theorem dX12_needsNew_18 : decode cX12_needsNew 18 = .ok (.ifCond .ge 11, 3) := by decide +kernel
theorem dX12_needsNew_21 : decode cX12_needsNew 21 = .ok (.aload_n 0, 1) := by decide +kernel
theorem dX12_needsNew_22 : decode cX12_needsNew 22 = .ok (.iconst 1, 1) := by decide +kernel
theorem dX12_needsNew_23 : decode cX12_needsNew 23 = .ok (.invokevirtual 271, 3) := by decide +kernel
theorem dX12_needsNew_26 : decode cX12_needsNew 26 = .ok (.ifCond .lt 9, 3) := by decide +kernel
theorem dX12_needsNew_29 : decode cX12_needsNew 29 = .ok (.aload_n 0, 1) := by decide +kernel
theorem dX12_needsNew_30 : decode cX12_needsNew 30 = .ok (.iconst 3, 1) := by decide +kernel
theorem dX12_needsNew_31 : decode cX12_needsNew 31 = .ok (.invokevirtual 197, 3) := by decide +kernel
theorem dX12_needsNew_34 : decode cX12_needsNew 34 = .ok (.ireturn, 1) := by decide +kernel
theorem dX12_needsNew_35 : decode cX12_needsNew 35 = .ok (.aload_n 0, 1) := by decide +kernel
theorem dX12_needsNew_36 : decode cX12_needsNew 36 = .ok (.aload_n 0, 1) := by decide +kernel
theorem dX12_needsNew_37 : decode cX12_needsNew 37 = .ok (.getfield 151, 3) := by decide +kernel
theorem dX12_needsNew_40 : decode cX12_needsNew 40 = .ok (.putfield 274, 3) := by decide +kernel
theorem dX12_needsNew_43 : decode cX12_needsNew 43 = .ok (.aload_n 0, 1) := by decide +kernel
theorem dX12_needsNew_44 : decode cX12_needsNew 44 = .ok (.invokevirtual 203, 3) := by decide +kernel
theorem dX12_needsNew_47 : decode cX12_needsNew 47 = .ok (.iconst 1, 1) := by decide +kernel
theorem dX12_needsNew_48 : decode cX12_needsNew 48 = .ok (.ireturn, 1) := by decide +kernel
theorem dX12_needsWare_0 : decode cX12_needsWare 0 = .ok (.aload_n 0, 1) := by decide +kernel
theorem dX12_needsWare_1 : decode cX12_needsWare 1 = .ok (.invokevirtual 264, 3) := by decide +kernel
theorem dX12_needsWare_4 : decode cX12_needsWare 4 = .ok (.ifCond .eq 9, 3) := by decide +kernel
theorem dX12_needsWare_7 : decode cX12_needsWare 7 = .ok (.aload_n 0, 1) := by decide +kernel
theorem dX12_needsWare_8 : decode cX12_needsWare 8 = .ok (.iconst 1, 1) := by decide +kernel
theorem dX12_needsWare_9 : decode cX12_needsWare 9 = .ok (.invokevirtual 197, 3) := by decide +kernel
theorem dX12_needsWare_12 : decode cX12_needsWare 12 = .ok (.ireturn, 1) := by decide +kernel
theorem dX12_needsWare_13 : decode cX12_needsWare 13 = .ok (.aload_n 0, 1) := by decide +kernel
theorem dX12_needsWare_14 : decode cX12_needsWare 14 = .ok (.aload_n 0, 1) := by decide +kernel
theorem dX12_needsWare_15 : decode cX12_needsWare 15 = .ok (.iload_n 1, 1) := by decide +kernel
theorem dX12_needsWare_16 : decode cX12_needsWare 16 = .ok (.invokevirtual 268, 3) := by decide +kernel
theorem dX12_needsWare_19 : decode cX12_needsWare 19 = .ok (.putfield 257, 3) := by decide +kernel
theorem dX12_needsWare_22 : decode cX12_needsWare 22 = .ok (.aload_n 0, 1) := by decide +kernel
theorem dX12_needsWare_23 : decode cX12_needsWare 23 = .ok (.getfield 257, 3) := by decide +kernel
theorem dX12_needsWare_26 : decode cX12_needsWare 26 = .ok (.ifCond .ge 11, 3) := by decide +kernel
theorem dX12_needsWare_29 : decode cX12_needsWare 29 = .ok (.aload_n 0, 1) := by decide +kernel
theorem dX12_needsWare_30 : decode cX12_needsWare 30 = .ok (.iconst 2, 1) := by decide +kernel
theorem dX12_needsWare_31 : decode cX12_needsWare 31 = .ok (.invokevirtual 197, 3) := by decide +kernel
theorem dX12_needsWare_34 : decode cX12_needsWare 34 = .ok (.ifCond .eq 7, 3) := by decide +kernel
theorem dX12_needsWare_37 : decode cX12_needsWare 37 = .ok (.iconst 1, 1) := by decide +kernel
theorem dX12_needsWare_38 : decode cX12_needsWare 38 = .ok (.goto 4, 3) := by decide +kernel
theorem dX12_needsWare_41 : decode cX12_needsWare 41 = .ok (.iconst 0, 1) := by decide +kernel
theorem dX12_needsWare_42 : decode cX12_needsWare 42 = .ok (.ireturn, 1) := by decide +kernel
theorem dX12_needsParty_0 : decode cX12_needsParty 0 = .ok (.aload_n 0, 1) := by decide +kernel
theorem dX12_needsParty_1 : decode cX12_needsParty 1 = .ok (.invokevirtual 264, 3) := by decide +kernel
theorem dX12_needsParty_4 : decode cX12_needsParty 4 = .ok (.ifCond .eq 9, 3) := by decide +kernel
theorem dX12_needsParty_7 : decode cX12_needsParty 7 = .ok (.aload_n 0, 1) := by decide +kernel
theorem dX12_needsParty_8 : decode cX12_needsParty 8 = .ok (.iconst 1, 1) := by decide +kernel
theorem dX12_needsParty_9 : decode cX12_needsParty 9 = .ok (.invokevirtual 197, 3) := by decide +kernel
theorem dX12_needsParty_12 : decode cX12_needsParty 12 = .ok (.ireturn, 1) := by decide +kernel
theorem dX12_needsParty_13 : decode cX12_needsParty 13 = .ok (.aload_n 0, 1) := by decide +kernel
theorem dX12_needsParty_14 : decode cX12_needsParty 14 = .ok (.aload_n 0, 1) := by decide +kernel
theorem dX12_needsParty_15 : decode cX12_needsParty 15 = .ok (.iload_n 1, 1) := by decide +kernel
theorem dX12_needsParty_16 : decode cX12_needsParty 16 = .ok (.invokevirtual 271, 3) := by decide +kernel
theorem dX12_needsParty_19 : decode cX12_needsParty 19 = .ok (.putfield 257, 3) := by decide +kernel
theorem dX12_needsParty_22 : decode cX12_needsParty 22 = .ok (.aload_n 0, 1) := by decide +kernel
theorem dX12_needsParty_23 : decode cX12_needsParty 23 = .ok (.getfield 257, 3) := by decide +kernel
theorem dX12_needsParty_26 : decode cX12_needsParty 26 = .ok (.ifCond .ge 11, 3) := by decide +kernel
theorem dX12_needsParty_29 : decode cX12_needsParty 29 = .ok (.aload_n 0, 1) := by decide +kernel
theorem dX12_needsParty_30 : decode cX12_needsParty 30 = .ok (.iconst 2, 1) := by decide +kernel
theorem dX12_needsParty_31 : decode cX12_needsParty 31 = .ok (.invokevirtual 197, 3) := by decide +kernel
theorem dX12_needsParty_34 : decode cX12_needsParty 34 = .ok (.ifCond .eq 7, 3) := by decide +kernel
theorem dX12_needsParty_37 : decode cX12_needsParty 37 = .ok (.iconst 1, 1) := by decide +kernel
theorem dX12_needsParty_38 : decode cX12_needsParty 38 = .ok (.goto 4, 3) := by decide +kernel
theorem dX12_needsParty_41 : decode cX12_needsParty 41 = .ok (.iconst 0, 1) := by decide +kernel
theorem dX12_needsParty_42 : decode cX12_needsParty 42 = .ok (.ireturn, 1) := by decide +kernel
theorem dX12_readsWare_0 : decode cX12_readsWare 0 = .ok (.bipush 6, 2) := by decide +kernel
theorem dX12_readsWare_2 : decode cX12_readsWare 2 = .ok (.aload_n 0, 1) := by decide +kernel
theorem dX12_readsWare_3 : decode cX12_readsWare 3 = .ok (.getfield 13, 3) := by decide +kernel
theorem dX12_readsWare_6 : decode cX12_readsWare 6 = .ok (.iconst 3, 1) := by decide +kernel
theorem dX12_readsWare_7 : decode cX12_readsWare 7 = .ok (.iaload, 1) := by decide +kernel
theorem dX12_readsWare_8 : decode cX12_readsWare 8 = .ok (.iadd, 1) := by decide +kernel
theorem dX12_readsWare_9 : decode cX12_readsWare 9 = .ok (.istore_n 1, 1) := by decide +kernel
theorem dX12_readsWare_10 : decode cX12_readsWare 10 = .ok (.iload_n 1, 1) := by decide +kernel
theorem dX12_readsWare_11 : decode cX12_readsWare 11 = .ok (.bipush 12, 2) := by decide +kernel
theorem dX12_readsWare_13 : decode cX12_readsWare 13 = .ok (.if_icmp .ne 9, 3) := by decide +kernel
theorem dX12_readsWare_16 : decode cX12_readsWare 16 = .ok (.aload_n 0, 1) := by decide +kernel
theorem dX12_readsWare_17 : decode cX12_readsWare 17 = .ok (.iconst 5, 1) := by decide +kernel
theorem dX12_readsWare_18 : decode cX12_readsWare 18 = .ok (.invokevirtual 197, 3) := by decide +kernel
theorem dX12_readsWare_21 : decode cX12_readsWare 21 = .ok (.ireturn, 1) := by decide +kernel
theorem dX12_readsWare_22 : decode cX12_readsWare 22 = .ok (.aload_n 0, 1) := by decide +kernel
theorem dX12_readsWare_23 : decode cX12_readsWare 23 = .ok (.invokevirtual 203, 3) := by decide +kernel
theorem dX12_readsWare_26 : decode cX12_readsWare 26 = .ok (.aload_n 0, 1) := by decide +kernel
theorem dX12_readsWare_27 : decode cX12_readsWare 27 = .ok (.invokevirtual 277, 3) := by decide +kernel
theorem dX12_readsWare_30 : decode cX12_readsWare 30 = .ok (.ifCond .ne 5, 3) := by decide +kernel
theorem dX12_readsWare_33 : decode cX12_readsWare 33 = .ok (.iconst 0, 1) := by decide +kernel
theorem dX12_readsWare_34 : decode cX12_readsWare 34 = .ok (.ireturn, 1) := by decide +kernel
theorem dX12_readsWare_35 : decode cX12_readsWare 35 = .ok (.aload_n 0, 1) := by decide +kernel
theorem dX12_readsWare_36 : decode cX12_readsWare 36 = .ok (.getfield 23, 3) := by decide +kernel
theorem dX12_readsWare_39 : decode cX12_readsWare 39 = .ok (.iload_n 1, 1) := by decide +kernel
theorem dX12_readsWare_40 : decode cX12_readsWare 40 = .ok (.aload_n 0, 1) := by decide +kernel
theorem dX12_readsWare_41 : decode cX12_readsWare 41 = .ok (.ldc2_w 245, 3) := by decide +kernel
theorem dX12_readsWare_44 : decode cX12_readsWare 44 = .ok (.invokevirtual 189, 3) := by decide +kernel
theorem dX12_readsWare_47 : decode cX12_readsWare 47 = .ok (.ifCond .eq 7, 3) := by decide +kernel
theorem dX12_readsWare_50 : decode cX12_readsWare 50 = .ok (.iconst 0, 1) := by decide +kernel
theorem dX12_readsWare_51 : decode cX12_readsWare 51 = .ok (.goto 46, 3) := by decide +kernel
theorem dX12_readsWare_54 : decode cX12_readsWare 54 = .ok (.aload_n 0, 1) := by decide +kernel
theorem dX12_readsWare_55 : decode cX12_readsWare 55 = .ok (.ldc2_w 247, 3) := by decide +kernel
theorem dX12_readsWare_58 : decode cX12_readsWare 58 = .ok (.invokevirtual 189, 3) := by decide +kernel
theorem dX12_readsWare_61 : decode cX12_readsWare 61 = .ok (.ifCond .eq 7, 3) := by decide +kernel
theorem dX12_readsWare_64 : decode cX12_readsWare 64 = .ok (.iconst 1, 1) := by decide +kernel
theorem dX12_readsWare_65 : decode cX12_readsWare 65 = .ok (.goto 32, 3) := by decide +kernel
theorem dX12_readsWare_68 : decode cX12_readsWare 68 = .ok (.aload_n 0, 1) := by decide +kernel
theorem dX12_readsWare_69 : decode cX12_readsWare 69 = .ok (.ldc2_w 249, 3) := by decide +kernel
theorem dX12_readsWare_72 : decode cX12_readsWare 72 = .ok (.invokevirtual 189, 3) := by decide +kernel
theorem dX12_readsWare_75 : decode cX12_readsWare 75 = .ok (.ifCond .eq 7, 3) := by decide +kernel
theorem dX12_readsWare_78 : decode cX12_readsWare 78 = .ok (.iconst 2, 1) := by decide +kernel
theorem dX12_readsWare_79 : decode cX12_readsWare 79 = .ok (.goto 18, 3) := by decide +kernel
theorem dX12_readsWare_82 : decode cX12_readsWare 82 = .ok (.aload_n 0, 1) := by decide +kernel
theorem dX12_readsWare_83 : decode cX12_readsWare 83 = .ok (.ldc2_w 251, 3) := by decide +kernel
theorem dX12_readsWare_86 : decode cX12_readsWare 86 = .ok (.invokevirtual 189, 3) := by decide +kernel
theorem dX12_readsWare_89 : decode cX12_readsWare 89 = .ok (.ifCond .eq 7, 3) := by decide +kernel
theorem dX12_readsWare_92 : decode cX12_readsWare 92 = .ok (.iconst 3, 1) := by decide +kernel
theorem dX12_readsWare_93 : decode cX12_readsWare 93 = .ok (.goto 4, 3) := by decide +kernel
theorem dX12_readsWare_96 : decode cX12_readsWare 96 = .ok (.iconst (-1), 1) := by decide +kernel
theorem dX12_readsWare_97 : decode cX12_readsWare 97 = .ok (.iastore, 1) := by decide +kernel
theorem dX12_readsWare_98 : decode cX12_readsWare 98 = .ok (.aload_n 0, 1) := by decide +kernel
theorem dX12_readsWare_99 : decode cX12_readsWare 99 = .ok (.getfield 23, 3) := by decide +kernel
theorem dX12_readsWare_102 : decode cX12_readsWare 102 = .ok (.iload_n 1, 1) := by decide +kernel
theorem dX12_readsWare_103 : decode cX12_readsWare 103 = .ok (.iaload, 1) := by decide +kernel
theorem dX12_readsWare_104 : decode cX12_readsWare 104 = .ok (.ifCond .ge 9, 3) := by decide +kernel
theorem dX12_readsWare_107 : decode cX12_readsWare 107 = .ok (.aload_n 0, 1) := by decide +kernel
theorem dX12_readsWare_108 : decode cX12_readsWare 108 = .ok (.iconst 1, 1) := by decide +kernel
theorem dX12_readsWare_109 : decode cX12_readsWare 109 = .ok (.invokevirtual 197, 3) := by decide +kernel
theorem dX12_readsWare_112 : decode cX12_readsWare 112 = .ok (.ireturn, 1) := by decide +kernel
theorem dX12_readsWare_113 : decode cX12_readsWare 113 = .ok (.aload_n 0, 1) := by decide +kernel
theorem dX12_readsWare_114 : decode cX12_readsWare 114 = .ok (.invokevirtual 203, 3) := by decide +kernel
theorem dX12_readsWare_117 : decode cX12_readsWare 117 = .ok (.aload_n 0, 1) := by decide +kernel
theorem dX12_readsWare_118 : decode cX12_readsWare 118 = .ok (.ldc2_w 221, 3) := by decide +kernel
theorem dX12_readsWare_121 : decode cX12_readsWare 121 = .ok (.iconst 2, 1) := by decide +kernel
theorem dX12_readsWare_122 : decode cX12_readsWare 122 = .ok (.bipush 60, 2) := by decide +kernel
theorem dX12_readsWare_124 : decode cX12_readsWare 124 = .ok (.invokevirtual 280, 3) := by decide +kernel
theorem dX12_readsWare_127 : decode cX12_readsWare 127 = .ok (.ifCond .ne 5, 3) := by decide +kernel
theorem dX12_readsWare_130 : decode cX12_readsWare 130 = .ok (.iconst 0, 1) := by decide +kernel
theorem dX12_readsWare_131 : decode cX12_readsWare 131 = .ok (.ireturn, 1) := by decide +kernel
theorem dX12_readsWare_132 : decode cX12_readsWare 132 = .ok (.aload_n 0, 1) := by decide +kernel
theorem dX12_readsWare_133 : decode cX12_readsWare 133 = .ok (.getfield 26, 3) := by decide +kernel
theorem dX12_readsWare_136 : decode cX12_readsWare 136 = .ok (.iload_n 1, 1) := by decide +kernel
theorem dX12_readsWare_137 : decode cX12_readsWare 137 = .ok (.aload_n 0, 1) := by decide +kernel
theorem dX12_readsWare_138 : decode cX12_readsWare 138 = .ok (.getfield 257, 3) := by decide +kernel
theorem dX12_readsWare_141 : decode cX12_readsWare 141 = .ok (.iastore, 1) := by decide +kernel
theorem dX12_readsWare_142 : decode cX12_readsWare 142 = .ok (.aload_n 0, 1) := by decide +kernel
theorem dX12_readsWare_143 : decode cX12_readsWare 143 = .ok (.ldc2_w 223, 3) := by decide +kernel
theorem dX12_readsWare_146 : decode cX12_readsWare 146 = .ok (.iconst 0, 1) := by decide +kernel
theorem dX12_readsWare_147 : decode cX12_readsWare 147 = .ok (.bipush 30, 2) := by decide +kernel
theorem dX12_readsWare_149 : decode cX12_readsWare 149 = .ok (.invokevirtual 280, 3) := by decide +kernel
theorem dX12_readsWare_152 : decode cX12_readsWare 152 = .ok (.ifCond .ne 5, 3) := by decide +kernel
theorem dX12_readsWare_155 : decode cX12_readsWare 155 = .ok (.iconst 0, 1) := by decide +kernel
theorem dX12_readsWare_156 : decode cX12_readsWare 156 = .ok (.ireturn, 1) := by decide +kernel
theorem dX12_readsWare_157 : decode cX12_readsWare 157 = .ok (.aload_n 0, 1) := by decide +kernel
theorem dX12_readsWare_158 : decode cX12_readsWare 158 = .ok (.getfield 29, 3) := by decide +kernel
theorem dX12_readsWare_161 : decode cX12_readsWare 161 = .ok (.iload_n 1, 1) := by decide +kernel
theorem dX12_readsWare_162 : decode cX12_readsWare 162 = .ok (.aload_n 0, 1) := by decide +kernel
theorem dX12_readsWare_163 : decode cX12_readsWare 163 = .ok (.getfield 257, 3) := by decide +kernel
theorem dX12_readsWare_166 : decode cX12_readsWare 166 = .ok (.aload_n 0, 1) := by decide +kernel
theorem dX12_readsWare_167 : decode cX12_readsWare 167 = .ok (.getfield 26, 3) := by decide +kernel
theorem dX12_readsWare_170 : decode cX12_readsWare 170 = .ok (.iload_n 1, 1) := by decide +kernel
theorem dX12_readsWare_171 : decode cX12_readsWare 171 = .ok (.iaload, 1) := by decide +kernel
theorem dX12_readsWare_172 : decode cX12_readsWare 172 = .ok (.iconst 2, 1) := by decide +kernel
theorem dX12_readsWare_173 : decode cX12_readsWare 173 = .ok (.idiv, 1) := by decide +kernel
theorem dX12_readsWare_174 : decode cX12_readsWare 174 = .ok (.invokestatic 284, 3) := by decide +kernel
theorem dX12_readsWare_177 : decode cX12_readsWare 177 = .ok (.iastore, 1) := by decide +kernel
theorem dX12_readsWare_178 : decode cX12_readsWare 178 = .ok (.aload_n 0, 1) := by decide +kernel
theorem dX12_readsWare_179 : decode cX12_readsWare 179 = .ok (.getfield 16, 3) := by decide +kernel
theorem dX12_readsWare_182 : decode cX12_readsWare 182 = .ok (.iload_n 1, 1) := by decide +kernel
theorem dX12_readsWare_183 : decode cX12_readsWare 183 = .ok (.aload_n 0, 1) := by decide +kernel
theorem dX12_readsWare_184 : decode cX12_readsWare 184 = .ok (.getfield 274, 3) := by decide +kernel
theorem dX12_readsWare_187 : decode cX12_readsWare 187 = .ok (.lastore, 1) := by decide +kernel
theorem dX12_readsWare_188 : decode cX12_readsWare 188 = .ok (.aload_n 0, 1) := by decide +kernel
theorem dX12_readsWare_189 : decode cX12_readsWare 189 = .ok (.getfield 13, 3) := by decide +kernel
theorem dX12_readsWare_192 : decode cX12_readsWare 192 = .ok (.iconst 3, 1) := by decide +kernel
theorem dX12_readsWare_193 : decode cX12_readsWare 193 = .ok (.dup2, 1) := by decide +kernel
theorem dX12_readsWare_194 : decode cX12_readsWare 194 = .ok (.iaload, 1) := by decide +kernel
theorem dX12_readsWare_195 : decode cX12_readsWare 195 = .ok (.iconst 1, 1) := by decide +kernel
theorem dX12_readsWare_196 : decode cX12_readsWare 196 = .ok (.iadd, 1) := by decide +kernel
theorem dX12_readsWare_197 : decode cX12_readsWare 197 = .ok (.iastore, 1) := by decide +kernel
theorem dX12_readsWare_198 : decode cX12_readsWare 198 = .ok (.aload_n 0, 1) := by decide +kernel
theorem dX12_readsWare_199 : decode cX12_readsWare 199 = .ok (.invokevirtual 290, 3) := by decide +kernel
theorem dX12_readsWare_202 : decode cX12_readsWare 202 = .ok (.ireturn, 1) := by decide +kernel
theorem dX12_readsParty_0 : decode cX12_readsParty 0 = .ok (.iconst 5, 1) := by decide +kernel
theorem dX12_readsParty_1 : decode cX12_readsParty 1 = .ok (.aload_n 0, 1) := by decide +kernel
theorem dX12_readsParty_2 : decode cX12_readsParty 2 = .ok (.getfield 13, 3) := by decide +kernel
theorem dX12_readsParty_5 : decode cX12_readsParty 5 = .ok (.iconst 4, 1) := by decide +kernel
theorem dX12_readsParty_6 : decode cX12_readsParty 6 = .ok (.iaload, 1) := by decide +kernel
theorem dX12_readsParty_7 : decode cX12_readsParty 7 = .ok (.iadd, 1) := by decide +kernel
theorem dX12_readsParty_8 : decode cX12_readsParty 8 = .ok (.istore_n 1, 1) := by decide +kernel
theorem dX12_readsParty_9 : decode cX12_readsParty 9 = .ok (.iload_n 1, 1) := by decide +kernel
theorem dX12_readsParty_10 : decode cX12_readsParty 10 = .ok (.bipush 10, 2) := by decide +kernel
theorem dX12_readsParty_12 : decode cX12_readsParty 12 = .ok (.if_icmp .ne 9, 3) := by decide +kernel
theorem dX12_readsParty_15 : decode cX12_readsParty 15 = .ok (.aload_n 0, 1) := by decide +kernel
theorem dX12_readsParty_16 : decode cX12_readsParty 16 = .ok (.iconst 5, 1) := by decide +kernel
theorem dX12_readsParty_17 : decode cX12_readsParty 17 = .ok (.invokevirtual 197, 3) := by decide +kernel
theorem dX12_readsParty_20 : decode cX12_readsParty 20 = .ok (.ireturn, 1) := by decide +kernel
theorem dX12_readsParty_21 : decode cX12_readsParty 21 = .ok (.aload_n 0, 1) := by decide +kernel
theorem dX12_readsParty_22 : decode cX12_readsParty 22 = .ok (.invokevirtual 203, 3) := by decide +kernel
theorem dX12_readsParty_25 : decode cX12_readsParty 25 = .ok (.aload_n 0, 1) := by decide +kernel
theorem dX12_readsParty_26 : decode cX12_readsParty 26 = .ok (.invokevirtual 277, 3) := by decide +kernel
theorem dX12_readsParty_29 : decode cX12_readsParty 29 = .ok (.ifCond .eq 16, 3) := by decide +kernel
theorem dX12_readsParty_32 : decode cX12_readsParty 32 = .ok (.aload_n 0, 1) := by decide +kernel
theorem dX12_readsParty_33 : decode cX12_readsParty 33 = .ok (.ldc2_w 227, 3) := by decide +kernel
theorem dX12_readsParty_36 : decode cX12_readsParty 36 = .ok (.iconst 0, 1) := by decide +kernel
theorem dX12_readsParty_37 : decode cX12_readsParty 37 = .ok (.bipush 40, 2) := by decide +kernel
theorem dX12_readsParty_39 : decode cX12_readsParty 39 = .ok (.invokevirtual 280, 3) := by decide +kernel
theorem dX12_readsParty_42 : decode cX12_readsParty 42 = .ok (.ifCond .ne 5, 3) := by decide +kernel
theorem dX12_readsParty_45 : decode cX12_readsParty 45 = .ok (.iconst 0, 1) := by decide +kernel
theorem dX12_readsParty_46 : decode cX12_readsParty 46 = .ok (.ireturn, 1) := by decide +kernel
theorem dX12_readsParty_47 : decode cX12_readsParty 47 = .ok (.aload_n 0, 1) := by decide +kernel
theorem dX12_readsParty_48 : decode cX12_readsParty 48 = .ok (.getfield 32, 3) := by decide +kernel
theorem dX12_readsParty_51 : decode cX12_readsParty 51 = .ok (.iload_n 1, 1) := by decide +kernel
theorem dX12_readsParty_52 : decode cX12_readsParty 52 = .ok (.aload_n 0, 1) := by decide +kernel
theorem dX12_readsParty_53 : decode cX12_readsParty 53 = .ok (.getfield 257, 3) := by decide +kernel
theorem dX12_readsParty_56 : decode cX12_readsParty 56 = .ok (.iastore, 1) := by decide +kernel
theorem dX12_readsParty_57 : decode cX12_readsParty 57 = .ok (.aload_n 0, 1) := by decide +kernel
theorem dX12_readsParty_58 : decode cX12_readsParty 58 = .ok (.getfield 35, 3) := by decide +kernel
theorem dX12_readsParty_61 : decode cX12_readsParty 61 = .ok (.iload_n 1, 1) := by decide +kernel
theorem dX12_readsParty_62 : decode cX12_readsParty 62 = .ok (.iconst 0, 1) := by decide +kernel
theorem dX12_readsParty_63 : decode cX12_readsParty 63 = .ok (.iastore, 1) := by decide +kernel
theorem dX12_readsParty_64 : decode cX12_readsParty 64 = .ok (.aload_n 0, 1) := by decide +kernel
theorem dX12_readsParty_65 : decode cX12_readsParty 65 = .ok (.getfield 20, 3) := by decide +kernel
theorem dX12_readsParty_68 : decode cX12_readsParty 68 = .ok (.iload_n 1, 1) := by decide +kernel
theorem dX12_readsParty_69 : decode cX12_readsParty 69 = .ok (.aload_n 0, 1) := by decide +kernel
theorem dX12_readsParty_70 : decode cX12_readsParty 70 = .ok (.getfield 274, 3) := by decide +kernel
theorem dX12_readsParty_73 : decode cX12_readsParty 73 = .ok (.lastore, 1) := by decide +kernel
theorem dX12_readsParty_74 : decode cX12_readsParty 74 = .ok (.aload_n 0, 1) := by decide +kernel
theorem dX12_readsParty_75 : decode cX12_readsParty 75 = .ok (.getfield 13, 3) := by decide +kernel
theorem dX12_readsParty_78 : decode cX12_readsParty 78 = .ok (.iconst 4, 1) := by decide +kernel
theorem dX12_readsParty_79 : decode cX12_readsParty 79 = .ok (.dup2, 1) := by decide +kernel
theorem dX12_readsParty_80 : decode cX12_readsParty 80 = .ok (.iaload, 1) := by decide +kernel
theorem dX12_readsParty_81 : decode cX12_readsParty 81 = .ok (.iconst 1, 1) := by decide +kernel
theorem dX12_readsParty_82 : decode cX12_readsParty 82 = .ok (.iadd, 1) := by decide +kernel
theorem dX12_readsParty_83 : decode cX12_readsParty 83 = .ok (.iastore, 1) := by decide +kernel
theorem dX12_readsParty_84 : decode cX12_readsParty 84 = .ok (.aload_n 0, 1) := by decide +kernel
theorem dX12_readsParty_85 : decode cX12_readsParty 85 = .ok (.invokevirtual 290, 3) := by decide +kernel
theorem dX12_readsParty_88 : decode cX12_readsParty 88 = .ok (.ireturn, 1) := by decide +kernel
theorem dX12_readsFor_0 : decode cX12_readsFor 0 = .ok (.aload_n 0, 1) := by decide +kernel
theorem dX12_readsFor_1 : decode cX12_readsFor 1 = .ok (.invokevirtual 203, 3) := by decide +kernel
theorem dX12_readsFor_4 : decode cX12_readsFor 4 = .ok (.aload_n 0, 1) := by decide +kernel
theorem dX12_readsFor_5 : decode cX12_readsFor 5 = .ok (.iconst 1, 1) := by decide +kernel
theorem dX12_readsFor_6 : decode cX12_readsFor 6 = .ok (.invokevirtual 293, 3) := by decide +kernel
theorem dX12_readsFor_9 : decode cX12_readsFor 9 = .ok (.ifCond .ne 5, 3) := by decide +kernel
theorem dX12_readsFor_12 : decode cX12_readsFor 12 = .ok (.iconst 0, 1) := by decide +kernel
theorem dX12_readsFor_13 : decode cX12_readsFor 13 = .ok (.ireturn, 1) := by decide +kernel
theorem dX12_readsFor_14 : decode cX12_readsFor 14 = .ok (.iconst 5, 1) := by decide +kernel
theorem dX12_readsFor_15 : decode cX12_readsFor 15 = .ok (.aload_n 0, 1) := by decide +kernel
theorem dX12_readsFor_16 : decode cX12_readsFor 16 = .ok (.getfield 257, 3) := by decide +kernel
theorem dX12_readsFor_19 : decode cX12_readsFor 19 = .ok (.iadd, 1) := by decide +kernel
theorem dX12_readsFor_20 : decode cX12_readsFor 20 = .ok (.istore_n 1, 1) := by decide +kernel
theorem dX12_readsFor_21 : decode cX12_readsFor 21 = .ok (.aload_n 0, 1) := by decide +kernel
theorem dX12_readsFor_22 : decode cX12_readsFor 22 = .ok (.invokevirtual 203, 3) := by decide +kernel
theorem dX12_readsFor_25 : decode cX12_readsFor 25 = .ok (.aload_n 0, 1) := by decide +kernel
theorem dX12_readsFor_26 : decode cX12_readsFor 26 = .ok (.iconst 1, 1) := by decide +kernel
theorem dX12_readsFor_27 : decode cX12_readsFor 27 = .ok (.invokevirtual 296, 3) := by decide +kernel
theorem dX12_readsFor_30 : decode cX12_readsFor 30 = .ok (.ifCond .ne 5, 3) := by decide +kernel
theorem dX12_readsFor_33 : decode cX12_readsFor 33 = .ok (.iconst 0, 1) := by decide +kernel
theorem dX12_readsFor_34 : decode cX12_readsFor 34 = .ok (.ireturn, 1) := by decide +kernel
theorem dX12_readsFor_35 : decode cX12_readsFor 35 = .ok (.aload_n 0, 1) := by decide +kernel
theorem dX12_readsFor_36 : decode cX12_readsFor 36 = .ok (.getfield 35, 3) := by decide +kernel
theorem dX12_readsFor_39 : decode cX12_readsFor 39 = .ok (.iload_n 1, 1) := by decide +kernel
theorem dX12_readsFor_40 : decode cX12_readsFor 40 = .ok (.iaload, 1) := by decide +kernel
theorem dX12_readsFor_41 : decode cX12_readsFor 41 = .ok (.aload_n 0, 1) := by decide +kernel
theorem dX12_readsFor_42 : decode cX12_readsFor 42 = .ok (.getfield 257, 3) := by decide +kernel
theorem dX12_readsFor_45 : decode cX12_readsFor 45 = .ok (.ishr, 1) := by decide +kernel
theorem dX12_readsFor_46 : decode cX12_readsFor 46 = .ok (.iconst 1, 1) := by decide +kernel
theorem dX12_readsFor_47 : decode cX12_readsFor 47 = .ok (.iand, 1) := by decide +kernel
theorem dX12_readsFor_48 : decode cX12_readsFor 48 = .ok (.iconst 1, 1) := by decide +kernel
theorem dX12_readsFor_49 : decode cX12_readsFor 49 = .ok (.if_icmp .ne 9, 3) := by decide +kernel
theorem dX12_readsFor_52 : decode cX12_readsFor 52 = .ok (.aload_n 0, 1) := by decide +kernel
theorem dX12_readsFor_53 : decode cX12_readsFor 53 = .ok (.iconst 3, 1) := by decide +kernel
theorem dX12_readsFor_54 : decode cX12_readsFor 54 = .ok (.invokevirtual 197, 3) := by decide +kernel
theorem dX12_readsFor_57 : decode cX12_readsFor 57 = .ok (.ireturn, 1) := by decide +kernel
theorem dX12_readsFor_58 : decode cX12_readsFor 58 = .ok (.aload_n 0, 1) := by decide +kernel
theorem dX12_readsFor_59 : decode cX12_readsFor 59 = .ok (.getfield 35, 3) := by decide +kernel
theorem dX12_readsFor_62 : decode cX12_readsFor 62 = .ok (.iload_n 1, 1) := by decide +kernel
theorem dX12_readsFor_63 : decode cX12_readsFor 63 = .ok (.dup2, 1) := by decide +kernel
theorem dX12_readsFor_64 : decode cX12_readsFor 64 = .ok (.iaload, 1) := by decide +kernel
theorem dX12_readsFor_65 : decode cX12_readsFor 65 = .ok (.iconst 1, 1) := by decide +kernel
theorem dX12_readsFor_66 : decode cX12_readsFor 66 = .ok (.aload_n 0, 1) := by decide +kernel
theorem dX12_readsFor_67 : decode cX12_readsFor 67 = .ok (.getfield 257, 3) := by decide +kernel
theorem dX12_readsFor_70 : decode cX12_readsFor 70 = .ok (.ishl, 1) := by decide +kernel
theorem dX12_readsFor_71 : decode cX12_readsFor 71 = .ok (.ior, 1) := by decide +kernel
theorem dX12_readsFor_72 : decode cX12_readsFor 72 = .ok (.iastore, 1) := by decide +kernel
theorem dX12_readsFor_73 : decode cX12_readsFor 73 = .ok (.aload_n 0, 1) := by decide +kernel
theorem dX12_readsFor_74 : decode cX12_readsFor 74 = .ok (.invokevirtual 203, 3) := by decide +kernel
theorem dX12_readsFor_77 : decode cX12_readsFor 77 = .ok (.aload_n 0, 1) := by decide +kernel
theorem dX12_readsFor_78 : decode cX12_readsFor 78 = .ok (.invokevirtual 290, 3) := by decide +kernel
theorem dX12_readsFor_81 : decode cX12_readsFor 81 = .ok (.ireturn, 1) := by decide +kernel
theorem dX12_readsFine_0 : decode cX12_readsFine 0 = .ok (.aload_n 0, 1) := by decide +kernel
theorem dX12_readsFine_1 : decode cX12_readsFine 1 = .ok (.getfield 299, 3) := by decide +kernel
theorem dX12_readsFine_4 : decode cX12_readsFine 4 = .ok (.ifCond .eq 9, 3) := by decide +kernel
theorem dX12_readsFine_7 : decode cX12_readsFine 7 = .ok (.aload_n 0, 1) := by decide +kernel
theorem dX12_readsFine_8 : decode cX12_readsFine 8 = .ok (.iconst 3, 1) := by decide +kernel
theorem dX12_readsFine_9 : decode cX12_readsFine 9 = .ok (.invokevirtual 197, 3) := by decide +kernel
theorem dX12_readsFine_12 : decode cX12_readsFine 12 = .ok (.ireturn, 1) := by decide +kernel
theorem dX12_readsFine_13 : decode cX12_readsFine 13 = .ok (.aload_n 0, 1) := by decide +kernel
theorem dX12_readsFine_14 : decode cX12_readsFine 14 = .ok (.iconst 1, 1) := by decide +kernel
theorem dX12_readsFine_15 : decode cX12_readsFine 15 = .ok (.putfield 299, 3) := by decide +kernel
theorem dX12_readsFine_18 : decode cX12_readsFine 18 = .ok (.aload_n 0, 1) := by decide +kernel
theorem dX12_readsFine_19 : decode cX12_readsFine 19 = .ok (.invokevirtual 203, 3) := by decide +kernel
theorem dX12_readsFine_22 : decode cX12_readsFine 22 = .ok (.aload_n 0, 1) := by decide +kernel
theorem dX12_readsFine_23 : decode cX12_readsFine 23 = .ok (.iconst 1, 1) := by decide +kernel
theorem dX12_readsFine_24 : decode cX12_readsFine 24 = .ok (.bipush 9, 2) := by decide +kernel
theorem dX12_readsFine_26 : decode cX12_readsFine 26 = .ok (.invokevirtual 260, 3) := by decide +kernel
theorem dX12_readsFine_29 : decode cX12_readsFine 29 = .ok (.ifCond .ne 5, 3) := by decide +kernel
theorem dX12_readsFine_32 : decode cX12_readsFine 32 = .ok (.iconst 0, 1) := by decide +kernel
theorem dX12_readsFine_33 : decode cX12_readsFine 33 = .ok (.ireturn, 1) := by decide +kernel
theorem dX12_readsFine_34 : decode cX12_readsFine 34 = .ok (.aload_n 0, 1) := by decide +kernel
theorem dX12_readsFine_35 : decode cX12_readsFine 35 = .ok (.getfield 13, 3) := by decide +kernel
theorem dX12_readsFine_38 : decode cX12_readsFine 38 = .ok (.iconst 5, 1) := by decide +kernel
theorem dX12_readsFine_39 : decode cX12_readsFine 39 = .ok (.aload_n 0, 1) := by decide +kernel
theorem dX12_readsFine_40 : decode cX12_readsFine 40 = .ok (.getfield 257, 3) := by decide +kernel
theorem dX12_readsFine_43 : decode cX12_readsFine 43 = .ok (.iastore, 1) := by decide +kernel
theorem dX12_readsFine_44 : decode cX12_readsFine 44 = .ok (.aload_n 0, 1) := by decide +kernel
theorem dX12_readsFine_45 : decode cX12_readsFine 45 = .ok (.invokevirtual 290, 3) := by decide +kernel
theorem dX12_readsFine_48 : decode cX12_readsFine 48 = .ok (.ireturn, 1) := by decide +kernel
theorem dX12_readsWorks_0 : decode cX12_readsWorks 0 = .ok (.aload_n 0, 1) := by decide +kernel
theorem dX12_readsWorks_1 : decode cX12_readsWorks 1 = .ok (.getfield 41, 3) := by decide +kernel
theorem dX12_readsWorks_4 : decode cX12_readsWorks 4 = .ok (.iconst 1, 1) := by decide +kernel
theorem dX12_readsWorks_5 : decode cX12_readsWorks 5 = .ok (.iaload, 1) := by decide +kernel
theorem dX12_readsWorks_6 : decode cX12_readsWorks 6 = .ok (.aload_n 0, 1) := by decide +kernel
theorem dX12_readsWorks_7 : decode cX12_readsWorks 7 = .ok (.getfield 38, 3) := by decide +kernel
theorem dX12_readsWorks_10 : decode cX12_readsWorks 10 = .ok (.iconst 1, 1) := by decide +kernel
theorem dX12_readsWorks_11 : decode cX12_readsWorks 11 = .ok (.iaload, 1) := by decide +kernel
theorem dX12_readsWorks_12 : decode cX12_readsWorks 12 = .ok (.if_icmp .le 9, 3) := by decide +kernel
theorem dX12_readsWorks_15 : decode cX12_readsWorks 15 = .ok (.aload_n 0, 1) := by decide +kernel
theorem dX12_readsWorks_16 : decode cX12_readsWorks 16 = .ok (.iconst 3, 1) := by decide +kernel
theorem dX12_readsWorks_17 : decode cX12_readsWorks 17 = .ok (.invokevirtual 197, 3) := by decide +kernel
theorem dX12_readsWorks_20 : decode cX12_readsWorks 20 = .ok (.ireturn, 1) := by decide +kernel
theorem dX12_readsWorks_21 : decode cX12_readsWorks 21 = .ok (.aload_n 0, 1) := by decide +kernel
theorem dX12_readsWorks_22 : decode cX12_readsWorks 22 = .ok (.invokevirtual 203, 3) := by decide +kernel
theorem dX12_readsWorks_25 : decode cX12_readsWorks 25 = .ok (.aload_n 0, 1) := by decide +kernel
theorem dX12_readsWorks_26 : decode cX12_readsWorks 26 = .ok (.getfield 38, 3) := by decide +kernel
theorem dX12_readsWorks_29 : decode cX12_readsWorks 29 = .ok (.iconst 1, 1) := by decide +kernel
theorem dX12_readsWorks_30 : decode cX12_readsWorks 30 = .ok (.aload_n 0, 1) := by decide +kernel
theorem dX12_readsWorks_31 : decode cX12_readsWorks 31 = .ok (.getfield 172, 3) := by decide +kernel
theorem dX12_readsWorks_34 : decode cX12_readsWorks 34 = .ok (.iastore, 1) := by decide +kernel
theorem dX12_readsWorks_35 : decode cX12_readsWorks 35 = .ok (.aload_n 0, 1) := by decide +kernel
theorem dX12_readsWorks_36 : decode cX12_readsWorks 36 = .ok (.invokevirtual 303, 3) := by decide +kernel
theorem dX12_readsWorks_39 : decode cX12_readsWorks 39 = .ok (.ifCond .ne 5, 3) := by decide +kernel
theorem dX12_readsWorks_42 : decode cX12_readsWorks 42 = .ok (.iconst 0, 1) := by decide +kernel
theorem dX12_readsWorks_43 : decode cX12_readsWorks 43 = .ok (.ireturn, 1) := by decide +kernel
theorem dX12_readsWorks_44 : decode cX12_readsWorks 44 = .ok (.aload_n 0, 1) := by decide +kernel
theorem dX12_readsWorks_45 : decode cX12_readsWorks 45 = .ok (.getfield 41, 3) := by decide +kernel
theorem dX12_readsWorks_48 : decode cX12_readsWorks 48 = .ok (.iconst 1, 1) := by decide +kernel
theorem dX12_readsWorks_49 : decode cX12_readsWorks 49 = .ok (.aload_n 0, 1) := by decide +kernel
theorem dX12_readsWorks_50 : decode cX12_readsWorks 50 = .ok (.getfield 172, 3) := by decide +kernel
theorem dX12_readsWorks_53 : decode cX12_readsWorks 53 = .ok (.iastore, 1) := by decide +kernel
theorem dX12_readsWorks_54 : decode cX12_readsWorks 54 = .ok (.iconst 1, 1) := by decide +kernel
theorem dX12_readsWorks_55 : decode cX12_readsWorks 55 = .ok (.ireturn, 1) := by decide +kernel
theorem dX12_begins_0 : decode cX12_begins 0 = .ok (.aload_n 0, 1) := by decide +kernel
theorem dX12_begins_1 : decode cX12_begins 1 = .ok (.aload_n 0, 1) := by decide +kernel
theorem dX12_begins_2 : decode cX12_begins 2 = .ok (.getfield 139, 3) := by decide +kernel
theorem dX12_begins_5 : decode cX12_begins 5 = .ok (.putfield 142, 3) := by decide +kernel
theorem dX12_begins_8 : decode cX12_begins 8 = .ok (.aload_n 0, 1) := by decide +kernel
theorem dX12_begins_9 : decode cX12_begins 9 = .ok (.iconst 0, 1) := by decide +kernel
theorem dX12_begins_10 : decode cX12_begins 10 = .ok (.putfield 139, 3) := by decide +kernel
theorem dX12_begins_13 : decode cX12_begins 13 = .ok (.aload_n 0, 1) := by decide +kernel
theorem dX12_begins_14 : decode cX12_begins 14 = .ok (.iconst 0, 1) := by decide +kernel
theorem dX12_begins_15 : decode cX12_begins 15 = .ok (.putfield 145, 3) := by decide +kernel
theorem dX12_begins_18 : decode cX12_begins 18 = .ok (.aload_n 0, 1) := by decide +kernel
theorem dX12_begins_19 : decode cX12_begins 19 = .ok (.invokevirtual 203, 3) := by decide +kernel
theorem dX12_begins_22 : decode cX12_begins 22 = .ok (.return_, 1) := by decide +kernel
theorem dX12_readsAll_0 : decode cX12_readsAll 0 = .ok (.aload_n 0, 1) := by decide +kernel
theorem dX12_readsAll_1 : decode cX12_readsAll 1 = .ok (.iconst 1, 1) := by decide +kernel
theorem dX12_readsAll_2 : decode cX12_readsAll 2 = .ok (.invokevirtual 129, 3) := by decide +kernel
theorem dX12_readsAll_5 : decode cX12_readsAll 5 = .ok (.aload_n 0, 1) := by decide +kernel
theorem dX12_readsAll_6 : decode cX12_readsAll 6 = .ok (.getfield 38, 3) := by decide +kernel
theorem dX12_readsAll_9 : decode cX12_readsAll 9 = .ok (.iconst 1, 1) := by decide +kernel
theorem dX12_readsAll_10 : decode cX12_readsAll 10 = .ok (.sipush 1000, 3) := by decide +kernel
theorem dX12_readsAll_13 : decode cX12_readsAll 13 = .ok (.iastore, 1) := by decide +kernel
theorem dX12_readsAll_14 : decode cX12_readsAll 14 = .ok (.aload_n 0, 1) := by decide +kernel
theorem dX12_readsAll_15 : decode cX12_readsAll 15 = .ok (.getfield 41, 3) := by decide +kernel
theorem dX12_readsAll_18 : decode cX12_readsAll 18 = .ok (.iconst 1, 1) := by decide +kernel
theorem dX12_readsAll_19 : decode cX12_readsAll 19 = .ok (.sipush 1000, 3) := by decide +kernel
theorem dX12_readsAll_22 : decode cX12_readsAll 22 = .ok (.iastore, 1) := by decide +kernel
theorem dX12_readsAll_23 : decode cX12_readsAll 23 = .ok (.aload_n 0, 1) := by decide +kernel
theorem dX12_readsAll_24 : decode cX12_readsAll 24 = .ok (.iconst 0, 1) := by decide +kernel
theorem dX12_readsAll_25 : decode cX12_readsAll 25 = .ok (.putfield 299, 3) := by decide +kernel
theorem dX12_readsAll_28 : decode cX12_readsAll 28 = .ok (.aload_n 0, 1) := by decide +kernel
theorem dX12_readsAll_29 : decode cX12_readsAll 29 = .ok (.sipush 1000, 3) := by decide +kernel
theorem dX12_readsAll_32 : decode cX12_readsAll 32 = .ok (.putfield 172, 3) := by decide +kernel
theorem dX12_readsAll_35 : decode cX12_readsAll 35 = .ok (.aload_n 0, 1) := by decide +kernel
theorem dX12_readsAll_36 : decode cX12_readsAll 36 = .ok (.invokevirtual 306, 3) := by decide +kernel
theorem dX12_readsAll_39 : decode cX12_readsAll 39 = .ok (.aload_n 0, 1) := by decide +kernel
theorem dX12_readsAll_40 : decode cX12_readsAll 40 = .ok (.getfield 158, 3) := by decide +kernel
theorem dX12_readsAll_43 : decode cX12_readsAll 43 = .ok (.ifCond .eq 103, 3) := by decide +kernel
theorem dX12_readsAll_46 : decode cX12_readsAll 46 = .ok (.aload_n 0, 1) := by decide +kernel
theorem dX12_readsAll_47 : decode cX12_readsAll 47 = .ok (.ldc2_w 219, 3) := by decide +kernel
theorem dX12_readsAll_50 : decode cX12_readsAll 50 = .ok (.invokevirtual 189, 3) := by decide +kernel
theorem dX12_readsAll_53 : decode cX12_readsAll 53 = .ok (.ifCond .eq 10, 3) := by decide +kernel
theorem dX12_readsAll_56 : decode cX12_readsAll 56 = .ok (.aload_n 0, 1) := by decide +kernel
theorem dX12_readsAll_57 : decode cX12_readsAll 57 = .ok (.invokevirtual 309, 3) := by decide +kernel
theorem dX12_readsAll_60 : decode cX12_readsAll 60 = .ok (.goto 76, 3) := by decide +kernel
theorem dX12_readsAll_63 : decode cX12_readsAll 63 = .ok (.aload_n 0, 1) := by decide +kernel
theorem dX12_readsAll_64 : decode cX12_readsAll 64 = .ok (.ldc2_w 225, 3) := by decide +kernel
theorem dX12_readsAll_67 : decode cX12_readsAll 67 = .ok (.invokevirtual 189, 3) := by decide +kernel
theorem dX12_readsAll_70 : decode cX12_readsAll 70 = .ok (.ifCond .eq 10, 3) := by decide +kernel
theorem dX12_readsAll_73 : decode cX12_readsAll 73 = .ok (.aload_n 0, 1) := by decide +kernel
theorem dX12_readsAll_74 : decode cX12_readsAll 74 = .ok (.invokevirtual 312, 3) := by decide +kernel
theorem dX12_readsAll_77 : decode cX12_readsAll 77 = .ok (.goto 59, 3) := by decide +kernel
theorem dX12_readsAll_80 : decode cX12_readsAll 80 = .ok (.aload_n 0, 1) := by decide +kernel
theorem dX12_readsAll_81 : decode cX12_readsAll 81 = .ok (.ldc2_w 229, 3) := by decide +kernel
theorem dX12_readsAll_84 : decode cX12_readsAll 84 = .ok (.invokevirtual 189, 3) := by decide +kernel
theorem dX12_readsAll_87 : decode cX12_readsAll 87 = .ok (.ifCond .eq 10, 3) := by decide +kernel
theorem dX12_readsAll_90 : decode cX12_readsAll 90 = .ok (.aload_n 0, 1) := by decide +kernel
theorem dX12_readsAll_91 : decode cX12_readsAll 91 = .ok (.invokevirtual 315, 3) := by decide +kernel
theorem dX12_readsAll_94 : decode cX12_readsAll 94 = .ok (.goto 42, 3) := by decide +kernel
theorem dX12_readsAll_97 : decode cX12_readsAll 97 = .ok (.aload_n 0, 1) := by decide +kernel
theorem dX12_readsAll_98 : decode cX12_readsAll 98 = .ok (.ldc2_w 231, 3) := by decide +kernel
theorem dX12_readsAll_101 : decode cX12_readsAll 101 = .ok (.invokevirtual 189, 3) := by decide +kernel
theorem dX12_readsAll_104 : decode cX12_readsAll 104 = .ok (.ifCond .eq 10, 3) := by decide +kernel
theorem dX12_readsAll_107 : decode cX12_readsAll 107 = .ok (.aload_n 0, 1) := by decide +kernel
theorem dX12_readsAll_108 : decode cX12_readsAll 108 = .ok (.invokevirtual 318, 3) := by decide +kernel
theorem dX12_readsAll_111 : decode cX12_readsAll 111 = .ok (.goto 25, 3) := by decide +kernel
theorem dX12_readsAll_114 : decode cX12_readsAll 114 = .ok (.aload_n 0, 1) := by decide +kernel
theorem dX12_readsAll_115 : decode cX12_readsAll 115 = .ok (.ldc2_w 233, 3) := by decide +kernel
theorem dX12_readsAll_118 : decode cX12_readsAll 118 = .ok (.invokevirtual 189, 3) := by decide +kernel
theorem dX12_readsAll_121 : decode cX12_readsAll 121 = .ok (.ifCond .eq 10, 3) := by decide +kernel
theorem dX12_readsAll_124 : decode cX12_readsAll 124 = .ok (.aload_n 0, 1) := by decide +kernel
theorem dX12_readsAll_125 : decode cX12_readsAll 125 = .ok (.invokevirtual 321, 3) := by decide +kernel
theorem dX12_readsAll_128 : decode cX12_readsAll 128 = .ok (.goto 8, 3) := by decide +kernel
theorem dX12_readsAll_131 : decode cX12_readsAll 131 = .ok (.aload_n 0, 1) := by decide +kernel
theorem dX12_readsAll_132 : decode cX12_readsAll 132 = .ok (.iconst 1, 1) := by decide +kernel
theorem dX12_readsAll_133 : decode cX12_readsAll 133 = .ok (.invokevirtual 197, 3) := by decide +kernel
theorem dX12_readsAll_136 : decode cX12_readsAll 136 = .ok (.istore_n 1, 1) := by decide +kernel
theorem dX12_readsAll_137 : decode cX12_readsAll 137 = .ok (.iload_n 1, 1) := by decide +kernel
theorem dX12_readsAll_138 : decode cX12_readsAll 138 = .ok (.ifCond .ne 5, 3) := by decide +kernel
theorem dX12_readsAll_141 : decode cX12_readsAll 141 = .ok (.iconst 0, 1) := by decide +kernel
theorem dX12_readsAll_142 : decode cX12_readsAll 142 = .ok (.ireturn, 1) := by decide +kernel
theorem dX12_readsAll_143 : decode cX12_readsAll 143 = .ok (.goto (-104), 3) := by decide +kernel
theorem dX12_readsAll_146 : decode cX12_readsAll 146 = .ok (.iconst 1, 1) := by decide +kernel
theorem dX12_readsAll_147 : decode cX12_readsAll 147 = .ok (.ireturn, 1) := by decide +kernel
theorem dX12_shifts_0 : decode cX12_shifts 0 = .ok (.iconst 0, 1) := by decide +kernel
theorem dX12_shifts_1 : decode cX12_shifts 1 = .ok (.istore_n 2, 1) := by decide +kernel
theorem dX12_shifts_2 : decode cX12_shifts 2 = .ok (.iload_n 2, 1) := by decide +kernel
theorem dX12_shifts_3 : decode cX12_shifts 3 = .ok (.iload_n 1, 1) := by decide +kernel
theorem dX12_shifts_4 : decode cX12_shifts 4 = .ok (.if_icmp .ge 17, 3) := by decide +kernel
theorem dX12_shifts_7 : decode cX12_shifts 7 = .ok (.aload_n 0, 1) := by decide +kernel
theorem dX12_shifts_8 : decode cX12_shifts 8 = .ok (.iload_n 2, 1) := by decide +kernel
theorem dX12_shifts_9 : decode cX12_shifts 9 = .ok (.aload_n 0, 1) := by decide +kernel
theorem dX12_shifts_10 : decode cX12_shifts 10 = .ok (.iload_n 1, 1) := by decide +kernel
theorem dX12_shifts_11 : decode cX12_shifts 11 = .ok (.iload_n 2, 1) := by decide +kernel
theorem dX12_shifts_12 : decode cX12_shifts 12 = .ok (.iadd, 1) := by decide +kernel
theorem dX12_shifts_13 : decode cX12_shifts 13 = .ok (.iaload, 1) := by decide +kernel
theorem dX12_shifts_14 : decode cX12_shifts 14 = .ok (.iastore, 1) := by decide +kernel
theorem dX12_shifts_15 : decode cX12_shifts 15 = .ok (.iinc 2 1, 3) := by decide +kernel
theorem dX12_shifts_18 : decode cX12_shifts 18 = .ok (.goto (-16), 3) := by decide +kernel
theorem dX12_shifts_21 : decode cX12_shifts 21 = .ok (.return_, 1) := by decide +kernel
theorem dX12_shiftsNames_0 : decode cX12_shiftsNames 0 = .ok (.iconst 0, 1) := by decide +kernel
theorem dX12_shiftsNames_1 : decode cX12_shiftsNames 1 = .ok (.istore_n 2, 1) := by decide +kernel
theorem dX12_shiftsNames_2 : decode cX12_shiftsNames 2 = .ok (.iload_n 2, 1) := by decide +kernel
theorem dX12_shiftsNames_3 : decode cX12_shiftsNames 3 = .ok (.iload_n 1, 1) := by decide +kernel
theorem dX12_shiftsNames_4 : decode cX12_shiftsNames 4 = .ok (.if_icmp .ge 17, 3) := by decide +kernel
theorem dX12_shiftsNames_7 : decode cX12_shiftsNames 7 = .ok (.aload_n 0, 1) := by decide +kernel
theorem dX12_shiftsNames_8 : decode cX12_shiftsNames 8 = .ok (.iload_n 2, 1) := by decide +kernel
theorem dX12_shiftsNames_9 : decode cX12_shiftsNames 9 = .ok (.aload_n 0, 1) := by decide +kernel
theorem dX12_shiftsNames_10 : decode cX12_shiftsNames 10 = .ok (.iload_n 1, 1) := by decide +kernel
theorem dX12_shiftsNames_11 : decode cX12_shiftsNames 11 = .ok (.iload_n 2, 1) := by decide +kernel
theorem dX12_shiftsNames_12 : decode cX12_shiftsNames 12 = .ok (.iadd, 1) := by decide +kernel
theorem dX12_shiftsNames_13 : decode cX12_shiftsNames 13 = .ok (.laload, 1) := by decide +kernel
theorem dX12_shiftsNames_14 : decode cX12_shiftsNames 14 = .ok (.lastore, 1) := by decide +kernel
theorem dX12_shiftsNames_15 : decode cX12_shiftsNames 15 = .ok (.iinc 2 1, 3) := by decide +kernel
theorem dX12_shiftsNames_18 : decode cX12_shiftsNames 18 = .ok (.goto (-16), 3) := by decide +kernel
theorem dX12_shiftsNames_21 : decode cX12_shiftsNames 21 = .ok (.return_, 1) := by decide +kernel
theorem dX12_lays_0 : decode cX12_lays 0 = .ok (.aload_n 0, 1) := by decide +kernel
theorem dX12_lays_1 : decode cX12_lays 1 = .ok (.getfield 13, 3) := by decide +kernel
theorem dX12_lays_4 : decode cX12_lays 4 = .ok (.iconst 3, 1) := by decide +kernel
theorem dX12_lays_5 : decode cX12_lays 5 = .ok (.invokestatic 324, 3) := by decide +kernel
theorem dX12_lays_8 : decode cX12_lays 8 = .ok (.aload_n 0, 1) := by decide +kernel
theorem dX12_lays_9 : decode cX12_lays 9 = .ok (.getfield 16, 3) := by decide +kernel
theorem dX12_lays_12 : decode cX12_lays 12 = .ok (.bipush 6, 2) := by decide +kernel
theorem dX12_lays_14 : decode cX12_lays 14 = .ok (.invokestatic 328, 3) := by decide +kernel
theorem dX12_lays_17 : decode cX12_lays 17 = .ok (.aload_n 0, 1) := by decide +kernel
theorem dX12_lays_18 : decode cX12_lays 18 = .ok (.getfield 20, 3) := by decide +kernel
theorem dX12_lays_21 : decode cX12_lays 21 = .ok (.iconst 5, 1) := by decide +kernel
theorem dX12_lays_22 : decode cX12_lays 22 = .ok (.invokestatic 328, 3) := by decide +kernel
theorem dX12_lays_25 : decode cX12_lays 25 = .ok (.aload_n 0, 1) := by decide +kernel
theorem dX12_lays_26 : decode cX12_lays 26 = .ok (.getfield 23, 3) := by decide +kernel
theorem dX12_lays_29 : decode cX12_lays 29 = .ok (.bipush 6, 2) := by decide +kernel
theorem dX12_lays_31 : decode cX12_lays 31 = .ok (.invokestatic 324, 3) := by decide +kernel
theorem dX12_lays_34 : decode cX12_lays 34 = .ok (.aload_n 0, 1) := by decide +kernel
theorem dX12_lays_35 : decode cX12_lays 35 = .ok (.getfield 26, 3) := by decide +kernel
theorem dX12_lays_38 : decode cX12_lays 38 = .ok (.bipush 6, 2) := by decide +kernel
theorem dX12_lays_40 : decode cX12_lays 40 = .ok (.invokestatic 324, 3) := by decide +kernel
theorem dX12_lays_43 : decode cX12_lays 43 = .ok (.aload_n 0, 1) := by decide +kernel
theorem dX12_lays_44 : decode cX12_lays 44 = .ok (.getfield 29, 3) := by decide +kernel
theorem dX12_lays_47 : decode cX12_lays 47 = .ok (.bipush 6, 2) := by decide +kernel
theorem dX12_lays_49 : decode cX12_lays 49 = .ok (.invokestatic 324, 3) := by decide +kernel
theorem dX12_lays_52 : decode cX12_lays 52 = .ok (.aload_n 0, 1) := by decide +kernel
theorem dX12_lays_53 : decode cX12_lays 53 = .ok (.getfield 32, 3) := by decide +kernel
theorem dX12_lays_56 : decode cX12_lays 56 = .ok (.iconst 5, 1) := by decide +kernel
theorem dX12_lays_57 : decode cX12_lays 57 = .ok (.invokestatic 324, 3) := by decide +kernel
theorem dX12_lays_60 : decode cX12_lays 60 = .ok (.aload_n 0, 1) := by decide +kernel
theorem dX12_lays_61 : decode cX12_lays 61 = .ok (.getfield 35, 3) := by decide +kernel
theorem dX12_lays_64 : decode cX12_lays 64 = .ok (.iconst 5, 1) := by decide +kernel
theorem dX12_lays_65 : decode cX12_lays 65 = .ok (.invokestatic 324, 3) := by decide +kernel
theorem dX12_lays_68 : decode cX12_lays 68 = .ok (.aload_n 0, 1) := by decide +kernel
theorem dX12_lays_69 : decode cX12_lays 69 = .ok (.getfield 44, 3) := by decide +kernel
theorem dX12_lays_72 : decode cX12_lays 72 = .ok (.sipush 1000, 3) := by decide +kernel
theorem dX12_lays_75 : decode cX12_lays 75 = .ok (.invokestatic 324, 3) := by decide +kernel
theorem dX12_lays_78 : decode cX12_lays 78 = .ok (.aload_n 0, 1) := by decide +kernel
theorem dX12_lays_79 : decode cX12_lays 79 = .ok (.getfield 38, 3) := by decide +kernel
theorem dX12_lays_82 : decode cX12_lays 82 = .ok (.iconst 0, 1) := by decide +kernel
theorem dX12_lays_83 : decode cX12_lays 83 = .ok (.aload_n 0, 1) := by decide +kernel
theorem dX12_lays_84 : decode cX12_lays 84 = .ok (.getfield 38, 3) := by decide +kernel
theorem dX12_lays_87 : decode cX12_lays 87 = .ok (.iconst 1, 1) := by decide +kernel
theorem dX12_lays_88 : decode cX12_lays 88 = .ok (.iaload, 1) := by decide +kernel
theorem dX12_lays_89 : decode cX12_lays 89 = .ok (.sipush 1000, 3) := by decide +kernel
theorem dX12_lays_92 : decode cX12_lays 92 = .ok (.isub, 1) := by decide +kernel
theorem dX12_lays_93 : decode cX12_lays 93 = .ok (.iastore, 1) := by decide +kernel
theorem dX12_lays_94 : decode cX12_lays 94 = .ok (.aload_n 0, 1) := by decide +kernel
theorem dX12_lays_95 : decode cX12_lays 95 = .ok (.getfield 41, 3) := by decide +kernel
theorem dX12_lays_98 : decode cX12_lays 98 = .ok (.iconst 0, 1) := by decide +kernel
theorem dX12_lays_99 : decode cX12_lays 99 = .ok (.aload_n 0, 1) := by decide +kernel
theorem dX12_lays_100 : decode cX12_lays 100 = .ok (.getfield 41, 3) := by decide +kernel
theorem dX12_lays_103 : decode cX12_lays 103 = .ok (.iconst 1, 1) := by decide +kernel
theorem dX12_lays_104 : decode cX12_lays 104 = .ok (.iaload, 1) := by decide +kernel
theorem dX12_lays_105 : decode cX12_lays 105 = .ok (.sipush 1000, 3) := by decide +kernel
theorem dX12_lays_108 : decode cX12_lays 108 = .ok (.isub, 1) := by decide +kernel
theorem dX12_lays_109 : decode cX12_lays 109 = .ok (.iastore, 1) := by decide +kernel
theorem dX12_lays_110 : decode cX12_lays 110 = .ok (.return_, 1) := by decide +kernel
theorem dX12_copies_0 : decode cX12_copies 0 = .ok (.iconst 0, 1) := by decide +kernel
theorem dX12_copies_1 : decode cX12_copies 1 = .ok (.istore 4, 2) := by decide +kernel
theorem dX12_copies_3 : decode cX12_copies 3 = .ok (.iload 4, 2) := by decide +kernel
theorem dX12_copies_5 : decode cX12_copies 5 = .ok (.bipush 14, 2) := by decide +kernel
theorem dX12_copies_7 : decode cX12_copies 7 = .ok (.if_icmp .ge 21, 3) := by decide +kernel
theorem dX12_copies_10 : decode cX12_copies 10 = .ok (.aload_n 2, 1) := by decide +kernel
theorem dX12_copies_11 : decode cX12_copies 11 = .ok (.iload_n 3, 1) := by decide +kernel
theorem dX12_copies_12 : decode cX12_copies 12 = .ok (.iload 4, 2) := by decide +kernel
theorem dX12_copies_14 : decode cX12_copies 14 = .ok (.iadd, 1) := by decide +kernel
theorem dX12_copies_15 : decode cX12_copies 15 = .ok (.aload_n 0, 1) := by decide +kernel
theorem dX12_copies_16 : decode cX12_copies 16 = .ok (.iload_n 1, 1) := by decide +kernel
theorem dX12_copies_17 : decode cX12_copies 17 = .ok (.iload 4, 2) := by decide +kernel
theorem dX12_copies_19 : decode cX12_copies 19 = .ok (.iadd, 1) := by decide +kernel
theorem dX12_copies_20 : decode cX12_copies 20 = .ok (.iaload, 1) := by decide +kernel
theorem dX12_copies_21 : decode cX12_copies 21 = .ok (.iastore, 1) := by decide +kernel
theorem dX12_copies_22 : decode cX12_copies 22 = .ok (.iinc 4 1, 3) := by decide +kernel
theorem dX12_copies_25 : decode cX12_copies 25 = .ok (.goto (-22), 3) := by decide +kernel
theorem dX12_copies_28 : decode cX12_copies 28 = .ok (.return_, 1) := by decide +kernel
theorem dX12_readsLine_0 : decode cX12_readsLine 0 = .ok (.aload_n 0, 1) := by decide +kernel
theorem dX12_readsLine_1 : decode cX12_readsLine 1 = .ok (.ldc2_w 235, 3) := by decide +kernel
theorem dX12_readsLine_4 : decode cX12_readsLine 4 = .ok (.invokevirtual 189, 3) := by decide +kernel
theorem dX12_readsLine_7 : decode cX12_readsLine 7 = .ok (.ifCond .eq 7, 3) := by decide +kernel
theorem dX12_readsLine_10 : decode cX12_readsLine 10 = .ok (.iconst 0, 1) := by decide +kernel
theorem dX12_readsLine_11 : decode cX12_readsLine 11 = .ok (.goto 60, 3) := by decide +kernel
theorem dX12_readsLine_14 : decode cX12_readsLine 14 = .ok (.aload_n 0, 1) := by decide +kernel
theorem dX12_readsLine_15 : decode cX12_readsLine 15 = .ok (.ldc2_w 237, 3) := by decide +kernel
theorem dX12_readsLine_18 : decode cX12_readsLine 18 = .ok (.invokevirtual 189, 3) := by decide +kernel
theorem dX12_readsLine_21 : decode cX12_readsLine 21 = .ok (.ifCond .eq 7, 3) := by decide +kernel
theorem dX12_readsLine_24 : decode cX12_readsLine 24 = .ok (.iconst 1, 1) := by decide +kernel
theorem dX12_readsLine_25 : decode cX12_readsLine 25 = .ok (.goto 46, 3) := by decide +kernel
theorem dX12_readsLine_28 : decode cX12_readsLine 28 = .ok (.aload_n 0, 1) := by decide +kernel
theorem dX12_readsLine_29 : decode cX12_readsLine 29 = .ok (.ldc2_w 239, 3) := by decide +kernel
theorem dX12_readsLine_32 : decode cX12_readsLine 32 = .ok (.invokevirtual 189, 3) := by decide +kernel
theorem dX12_readsLine_35 : decode cX12_readsLine 35 = .ok (.ifCond .eq 7, 3) := by decide +kernel
theorem dX12_readsLine_38 : decode cX12_readsLine 38 = .ok (.iconst 2, 1) := by decide +kernel
theorem dX12_readsLine_39 : decode cX12_readsLine 39 = .ok (.goto 32, 3) := by decide +kernel
theorem dX12_readsLine_42 : decode cX12_readsLine 42 = .ok (.aload_n 0, 1) := by decide +kernel
theorem dX12_readsLine_43 : decode cX12_readsLine 43 = .ok (.ldc2_w 241, 3) := by decide +kernel
theorem dX12_readsLine_46 : decode cX12_readsLine 46 = .ok (.invokevirtual 189, 3) := by decide +kernel
theorem dX12_readsLine_49 : decode cX12_readsLine 49 = .ok (.ifCond .eq 7, 3) := by decide +kernel
theorem dX12_readsLine_52 : decode cX12_readsLine 52 = .ok (.iconst 3, 1) := by decide +kernel
theorem dX12_readsLine_53 : decode cX12_readsLine 53 = .ok (.goto 18, 3) := by decide +kernel
theorem dX12_readsLine_56 : decode cX12_readsLine 56 = .ok (.aload_n 0, 1) := by decide +kernel
theorem dX12_readsLine_57 : decode cX12_readsLine 57 = .ok (.ldc2_w 243, 3) := by decide +kernel
theorem dX12_readsLine_60 : decode cX12_readsLine 60 = .ok (.invokevirtual 189, 3) := by decide +kernel
theorem dX12_readsLine_63 : decode cX12_readsLine 63 = .ok (.ifCond .eq 7, 3) := by decide +kernel
theorem dX12_readsLine_66 : decode cX12_readsLine 66 = .ok (.iconst 4, 1) := by decide +kernel
theorem dX12_readsLine_67 : decode cX12_readsLine 67 = .ok (.goto 4, 3) := by decide +kernel
theorem dX12_readsLine_70 : decode cX12_readsLine 70 = .ok (.iconst (-1), 1) := by decide +kernel
theorem dX12_readsLine_71 : decode cX12_readsLine 71 = .ok (.istore_n 1, 1) := by decide +kernel
theorem dX12_readsLine_72 : decode cX12_readsLine 72 = .ok (.iload_n 1, 1) := by decide +kernel
theorem dX12_readsLine_73 : decode cX12_readsLine 73 = .ok (.ifCond .ge 9, 3) := by decide +kernel
theorem dX12_readsLine_76 : decode cX12_readsLine 76 = .ok (.aload_n 0, 1) := by decide +kernel
theorem dX12_readsLine_77 : decode cX12_readsLine 77 = .ok (.iconst 1, 1) := by decide +kernel
theorem dX12_readsLine_78 : decode cX12_readsLine 78 = .ok (.invokevirtual 197, 3) := by decide +kernel
theorem dX12_readsLine_81 : decode cX12_readsLine 81 = .ok (.ireturn, 1) := by decide +kernel
theorem dX12_readsLine_82 : decode cX12_readsLine 82 = .ok (.aload_n 0, 1) := by decide +kernel
theorem dX12_readsLine_83 : decode cX12_readsLine 83 = .ok (.getfield 84, 3) := by decide +kernel
theorem dX12_readsLine_86 : decode cX12_readsLine 86 = .ok (.iconst 5, 1) := by decide +kernel
theorem dX12_readsLine_87 : decode cX12_readsLine 87 = .ok (.iaload, 1) := by decide +kernel
theorem dX12_readsLine_88 : decode cX12_readsLine 88 = .ok (.bipush 40, 2) := by decide +kernel
theorem dX12_readsLine_90 : decode cX12_readsLine 90 = .ok (.if_icmp .ne 9, 3) := by decide +kernel
theorem dX12_readsLine_93 : decode cX12_readsLine 93 = .ok (.aload_n 0, 1) := by decide +kernel
theorem dX12_readsLine_94 : decode cX12_readsLine 94 = .ok (.iconst 5, 1) := by decide +kernel
theorem dX12_readsLine_95 : decode cX12_readsLine 95 = .ok (.invokevirtual 197, 3) := by decide +kernel
theorem dX12_readsLine_98 : decode cX12_readsLine 98 = .ok (.ireturn, 1) := by decide +kernel
theorem dX12_readsLine_99 : decode cX12_readsLine 99 = .ok (.aload_n 0, 1) := by decide +kernel
theorem dX12_readsLine_100 : decode cX12_readsLine 100 = .ok (.invokevirtual 203, 3) := by decide +kernel
theorem dX12_readsLine_103 : decode cX12_readsLine 103 = .ok (.sipush 200, 3) := by decide +kernel
theorem dX12_readsLine_106 : decode cX12_readsLine 106 = .ok (.aload_n 0, 1) := by decide +kernel
theorem dX12_readsLine_107 : decode cX12_readsLine 107 = .ok (.getfield 84, 3) := by decide +kernel
theorem dX12_readsLine_110 : decode cX12_readsLine 110 = .ok (.iconst 5, 1) := by decide +kernel
theorem dX12_readsLine_111 : decode cX12_readsLine 111 = .ok (.iaload, 1) := by decide +kernel
theorem dX12_readsLine_112 : decode cX12_readsLine 112 = .ok (.iadd, 1) := by decide +kernel
theorem dX12_readsLine_113 : decode cX12_readsLine 113 = .ok (.istore_n 2, 1) := by decide +kernel
theorem dX12_readsLine_114 : decode cX12_readsLine 114 = .ok (.aload_n 0, 1) := by decide +kernel
theorem dX12_readsLine_115 : decode cX12_readsLine 115 = .ok (.getfield 87, 3) := by decide +kernel
theorem dX12_readsLine_118 : decode cX12_readsLine 118 = .ok (.iload_n 2, 1) := by decide +kernel
theorem dX12_readsLine_119 : decode cX12_readsLine 119 = .ok (.iload_n 1, 1) := by decide +kernel
theorem dX12_readsLine_120 : decode cX12_readsLine 120 = .ok (.iastore, 1) := by decide +kernel
theorem dX12_readsLine_121 : decode cX12_readsLine 121 = .ok (.iload_n 1, 1) := by decide +kernel
theorem dX12_readsLine_122 : decode cX12_readsLine 122 = .ok (.iconst 4, 1) := by decide +kernel
theorem dX12_readsLine_123 : decode cX12_readsLine 123 = .ok (.if_icmp .eq 43, 3) := by decide +kernel
theorem dX12_readsLine_126 : decode cX12_readsLine 126 = .ok (.iload_n 1, 1) := by decide +kernel
theorem dX12_readsLine_127 : decode cX12_readsLine 127 = .ok (.iconst 3, 1) := by decide +kernel
theorem dX12_readsLine_128 : decode cX12_readsLine 128 = .ok (.if_icmp .ne 14, 3) := by decide +kernel
theorem dX12_readsLine_131 : decode cX12_readsLine 131 = .ok (.aload_n 0, 1) := by decide +kernel
theorem dX12_readsLine_132 : decode cX12_readsLine 132 = .ok (.iconst 0, 1) := by decide +kernel
theorem dX12_readsLine_133 : decode cX12_readsLine 133 = .ok (.invokevirtual 293, 3) := by decide +kernel
theorem dX12_readsLine_136 : decode cX12_readsLine 136 = .ok (.ifCond .ne 16, 3) := by decide +kernel
theorem dX12_readsLine_139 : decode cX12_readsLine 139 = .ok (.goto 11, 3) := by decide +kernel
theorem dX12_readsLine_142 : decode cX12_readsLine 142 = .ok (.aload_n 0, 1) := by decide +kernel
theorem dX12_readsLine_143 : decode cX12_readsLine 143 = .ok (.iconst 0, 1) := by decide +kernel
theorem dX12_readsLine_144 : decode cX12_readsLine 144 = .ok (.invokevirtual 296, 3) := by decide +kernel
theorem dX12_readsLine_147 : decode cX12_readsLine 147 = .ok (.ifCond .ne 5, 3) := by decide +kernel
theorem dX12_readsLine_150 : decode cX12_readsLine 150 = .ok (.iconst 0, 1) := by decide +kernel
theorem dX12_readsLine_151 : decode cX12_readsLine 151 = .ok (.ireturn, 1) := by decide +kernel
theorem dX12_readsLine_152 : decode cX12_readsLine 152 = .ok (.aload_n 0, 1) := by decide +kernel
theorem dX12_readsLine_153 : decode cX12_readsLine 153 = .ok (.getfield 90, 3) := by decide +kernel
theorem dX12_readsLine_156 : decode cX12_readsLine 156 = .ok (.iload_n 2, 1) := by decide +kernel
theorem dX12_readsLine_157 : decode cX12_readsLine 157 = .ok (.aload_n 0, 1) := by decide +kernel
theorem dX12_readsLine_158 : decode cX12_readsLine 158 = .ok (.getfield 257, 3) := by decide +kernel
theorem dX12_readsLine_161 : decode cX12_readsLine 161 = .ok (.iastore, 1) := by decide +kernel
theorem dX12_readsLine_162 : decode cX12_readsLine 162 = .ok (.aload_n 0, 1) := by decide +kernel
theorem dX12_readsLine_163 : decode cX12_readsLine 163 = .ok (.invokevirtual 203, 3) := by decide +kernel
theorem dX12_readsLine_166 : decode cX12_readsLine 166 = .ok (.iload_n 1, 1) := by decide +kernel
theorem dX12_readsLine_167 : decode cX12_readsLine 167 = .ok (.iconst 2, 1) := by decide +kernel
theorem dX12_readsLine_168 : decode cX12_readsLine 168 = .ok (.if_icmp .eq 8, 3) := by decide +kernel
theorem dX12_readsLine_171 : decode cX12_readsLine 171 = .ok (.iload_n 1, 1) := by decide +kernel
theorem dX12_readsLine_172 : decode cX12_readsLine 172 = .ok (.iconst 3, 1) := by decide +kernel
theorem dX12_readsLine_173 : decode cX12_readsLine 173 = .ok (.if_icmp .ne 62, 3) := by decide +kernel
theorem dX12_readsLine_176 : decode cX12_readsLine 176 = .ok (.iload_n 1, 1) := by decide +kernel
theorem dX12_readsLine_177 : decode cX12_readsLine 177 = .ok (.iconst 3, 1) := by decide +kernel
theorem dX12_readsLine_178 : decode cX12_readsLine 178 = .ok (.if_icmp .ne 14, 3) := by decide +kernel
theorem dX12_readsLine_181 : decode cX12_readsLine 181 = .ok (.aload_n 0, 1) := by decide +kernel
theorem dX12_readsLine_182 : decode cX12_readsLine 182 = .ok (.iconst 0, 1) := by decide +kernel
theorem dX12_readsLine_183 : decode cX12_readsLine 183 = .ok (.invokevirtual 293, 3) := by decide +kernel
theorem dX12_readsLine_186 : decode cX12_readsLine 186 = .ok (.ifCond .ne 16, 3) := by decide +kernel
theorem dX12_readsLine_189 : decode cX12_readsLine 189 = .ok (.goto 11, 3) := by decide +kernel
theorem dX12_readsLine_192 : decode cX12_readsLine 192 = .ok (.aload_n 0, 1) := by decide +kernel
theorem dX12_readsLine_193 : decode cX12_readsLine 193 = .ok (.iconst 0, 1) := by decide +kernel
theorem dX12_readsLine_194 : decode cX12_readsLine 194 = .ok (.invokevirtual 296, 3) := by decide +kernel
theorem dX12_readsLine_197 : decode cX12_readsLine 197 = .ok (.ifCond .ne 5, 3) := by decide +kernel
theorem dX12_readsLine_200 : decode cX12_readsLine 200 = .ok (.iconst 0, 1) := by decide +kernel
theorem dX12_readsLine_201 : decode cX12_readsLine 201 = .ok (.ireturn, 1) := by decide +kernel
theorem dX12_readsLine_202 : decode cX12_readsLine 202 = .ok (.aload_n 0, 1) := by decide +kernel
theorem dX12_readsLine_203 : decode cX12_readsLine 203 = .ok (.getfield 257, 3) := by decide +kernel
theorem dX12_readsLine_206 : decode cX12_readsLine 206 = .ok (.aload_n 0, 1) := by decide +kernel
theorem dX12_readsLine_207 : decode cX12_readsLine 207 = .ok (.getfield 90, 3) := by decide +kernel
theorem dX12_readsLine_210 : decode cX12_readsLine 210 = .ok (.iload_n 2, 1) := by decide +kernel
theorem dX12_readsLine_211 : decode cX12_readsLine 211 = .ok (.iaload, 1) := by decide +kernel
theorem dX12_readsLine_212 : decode cX12_readsLine 212 = .ok (.if_icmp .ne 9, 3) := by decide +kernel
theorem dX12_readsLine_215 : decode cX12_readsLine 215 = .ok (.aload_n 0, 1) := by decide +kernel
theorem dX12_readsLine_216 : decode cX12_readsLine 216 = .ok (.iconst 3, 1) := by decide +kernel
theorem dX12_readsLine_217 : decode cX12_readsLine 217 = .ok (.invokevirtual 197, 3) := by decide +kernel
theorem dX12_readsLine_220 : decode cX12_readsLine 220 = .ok (.ireturn, 1) := by decide +kernel
theorem dX12_readsLine_221 : decode cX12_readsLine 221 = .ok (.aload_n 0, 1) := by decide +kernel
theorem dX12_readsLine_222 : decode cX12_readsLine 222 = .ok (.getfield 93, 3) := by decide +kernel
theorem dX12_readsLine_225 : decode cX12_readsLine 225 = .ok (.iload_n 2, 1) := by decide +kernel
theorem dX12_readsLine_226 : decode cX12_readsLine 226 = .ok (.aload_n 0, 1) := by decide +kernel
theorem dX12_readsLine_227 : decode cX12_readsLine 227 = .ok (.getfield 257, 3) := by decide +kernel
theorem dX12_readsLine_230 : decode cX12_readsLine 230 = .ok (.iastore, 1) := by decide +kernel
theorem dX12_readsLine_231 : decode cX12_readsLine 231 = .ok (.aload_n 0, 1) := by decide +kernel
theorem dX12_readsLine_232 : decode cX12_readsLine 232 = .ok (.invokevirtual 203, 3) := by decide +kernel
theorem dX12_readsLine_235 : decode cX12_readsLine 235 = .ok (.iload_n 1, 1) := by decide +kernel
theorem dX12_readsLine_236 : decode cX12_readsLine 236 = .ok (.iconst 4, 1) := by decide +kernel
theorem dX12_readsLine_237 : decode cX12_readsLine 237 = .ok (.if_icmp .eq 30, 3) := by decide +kernel
theorem dX12_readsLine_240 : decode cX12_readsLine 240 = .ok (.iload_n 1, 1) := by decide +kernel
theorem dX12_readsLine_241 : decode cX12_readsLine 241 = .ok (.iconst 2, 1) := by decide +kernel
theorem dX12_readsLine_242 : decode cX12_readsLine 242 = .ok (.if_icmp .eq 25, 3) := by decide +kernel
theorem dX12_readsLine_245 : decode cX12_readsLine 245 = .ok (.aload_n 0, 1) := by decide +kernel
theorem dX12_readsLine_246 : decode cX12_readsLine 246 = .ok (.iconst 1, 1) := by decide +kernel
theorem dX12_readsLine_247 : decode cX12_readsLine 247 = .ok (.bipush 20, 2) := by decide +kernel
theorem dX12_readsLine_249 : decode cX12_readsLine 249 = .ok (.invokevirtual 260, 3) := by decide +kernel
theorem dX12_readsLine_252 : decode cX12_readsLine 252 = .ok (.ifCond .ne 5, 3) := by decide +kernel
theorem dX12_readsLine_255 : decode cX12_readsLine 255 = .ok (.iconst 0, 1) := by decide +kernel
theorem dX12_readsLine_256 : decode cX12_readsLine 256 = .ok (.ireturn, 1) := by decide +kernel
theorem dX12_readsLine_257 : decode cX12_readsLine 257 = .ok (.aload_n 0, 1) := by decide +kernel
theorem dX12_readsLine_258 : decode cX12_readsLine 258 = .ok (.getfield 96, 3) := by decide +kernel
theorem dX12_readsLine_261 : decode cX12_readsLine 261 = .ok (.iload_n 2, 1) := by decide +kernel
theorem dX12_readsLine_262 : decode cX12_readsLine 262 = .ok (.aload_n 0, 1) := by decide +kernel
theorem dX12_readsLine_263 : decode cX12_readsLine 263 = .ok (.getfield 257, 3) := by decide +kernel
theorem dX12_readsLine_266 : decode cX12_readsLine 266 = .ok (.iastore, 1) := by decide +kernel
theorem dX12_readsLine_267 : decode cX12_readsLine 267 = .ok (.aload_n 0, 1) := by decide +kernel
theorem dX12_readsLine_268 : decode cX12_readsLine 268 = .ok (.getfield 84, 3) := by decide +kernel
theorem dX12_readsLine_271 : decode cX12_readsLine 271 = .ok (.iconst 5, 1) := by decide +kernel
theorem dX12_readsLine_272 : decode cX12_readsLine 272 = .ok (.dup2, 1) := by decide +kernel
theorem dX12_readsLine_273 : decode cX12_readsLine 273 = .ok (.iaload, 1) := by decide +kernel
theorem dX12_readsLine_274 : decode cX12_readsLine 274 = .ok (.iconst 1, 1) := by decide +kernel
theorem dX12_readsLine_275 : decode cX12_readsLine 275 = .ok (.iadd, 1) := by decide +kernel
theorem dX12_readsLine_276 : decode cX12_readsLine 276 = .ok (.iastore, 1) := by decide +kernel
theorem dX12_readsLine_277 : decode cX12_readsLine 277 = .ok (.aload_n 0, 1) := by decide +kernel
theorem dX12_readsLine_278 : decode cX12_readsLine 278 = .ok (.invokevirtual 290, 3) := by decide +kernel
theorem dX12_readsLine_281 : decode cX12_readsLine 281 = .ok (.ireturn, 1) := by decide +kernel
theorem dX12_laysLines_0 : decode cX12_laysLines 0 = .ok (.aload_n 0, 1) := by decide +kernel
theorem dX12_laysLines_1 : decode cX12_laysLines 1 = .ok (.getfield 84, 3) := by decide +kernel
theorem dX12_laysLines_4 : decode cX12_laysLines 4 = .ok (.iload_n 2, 1) := by decide +kernel
theorem dX12_laysLines_5 : decode cX12_laysLines 5 = .ok (.aload_n 0, 1) := by decide +kernel
theorem dX12_laysLines_6 : decode cX12_laysLines 6 = .ok (.getfield 84, 3) := by decide +kernel
theorem dX12_laysLines_9 : decode cX12_laysLines 9 = .ok (.iload_n 1, 1) := by decide +kernel
theorem dX12_laysLines_10 : decode cX12_laysLines 10 = .ok (.iaload, 1) := by decide +kernel
theorem dX12_laysLines_11 : decode cX12_laysLines 11 = .ok (.iastore, 1) := by decide +kernel
theorem dX12_laysLines_12 : decode cX12_laysLines 12 = .ok (.iconst 0, 1) := by decide +kernel
theorem dX12_laysLines_13 : decode cX12_laysLines 13 = .ok (.istore_n 3, 1) := by decide +kernel
theorem dX12_laysLines_14 : decode cX12_laysLines 14 = .ok (.iload_n 3, 1) := by decide +kernel
theorem dX12_laysLines_15 : decode cX12_laysLines 15 = .ok (.bipush 40, 2) := by decide +kernel
theorem dX12_laysLines_17 : decode cX12_laysLines 17 = .ok (.if_icmp .ge 97, 3) := by decide +kernel
theorem dX12_laysLines_20 : decode cX12_laysLines 20 = .ok (.aload_n 0, 1) := by decide +kernel
theorem dX12_laysLines_21 : decode cX12_laysLines 21 = .ok (.getfield 87, 3) := by decide +kernel
theorem dX12_laysLines_24 : decode cX12_laysLines 24 = .ok (.bipush 40, 2) := by decide +kernel
theorem dX12_laysLines_26 : decode cX12_laysLines 26 = .ok (.iload_n 2, 1) := by decide +kernel
theorem dX12_laysLines_27 : decode cX12_laysLines 27 = .ok (.imul, 1) := by decide +kernel
theorem dX12_laysLines_28 : decode cX12_laysLines 28 = .ok (.iload_n 3, 1) := by decide +kernel
theorem dX12_laysLines_29 : decode cX12_laysLines 29 = .ok (.iadd, 1) := by decide +kernel
theorem dX12_laysLines_30 : decode cX12_laysLines 30 = .ok (.aload_n 0, 1) := by decide +kernel
theorem dX12_laysLines_31 : decode cX12_laysLines 31 = .ok (.getfield 87, 3) := by decide +kernel
theorem dX12_laysLines_34 : decode cX12_laysLines 34 = .ok (.bipush 40, 2) := by decide +kernel
theorem dX12_laysLines_36 : decode cX12_laysLines 36 = .ok (.iload_n 1, 1) := by decide +kernel
theorem dX12_laysLines_37 : decode cX12_laysLines 37 = .ok (.imul, 1) := by decide +kernel
theorem dX12_laysLines_38 : decode cX12_laysLines 38 = .ok (.iload_n 3, 1) := by decide +kernel
theorem dX12_laysLines_39 : decode cX12_laysLines 39 = .ok (.iadd, 1) := by decide +kernel
theorem dX12_laysLines_40 : decode cX12_laysLines 40 = .ok (.iaload, 1) := by decide +kernel
theorem dX12_laysLines_41 : decode cX12_laysLines 41 = .ok (.iastore, 1) := by decide +kernel
theorem dX12_laysLines_42 : decode cX12_laysLines 42 = .ok (.aload_n 0, 1) := by decide +kernel
theorem dX12_laysLines_43 : decode cX12_laysLines 43 = .ok (.getfield 90, 3) := by decide +kernel
theorem dX12_laysLines_46 : decode cX12_laysLines 46 = .ok (.bipush 40, 2) := by decide +kernel
theorem dX12_laysLines_48 : decode cX12_laysLines 48 = .ok (.iload_n 2, 1) := by decide +kernel
theorem dX12_laysLines_49 : decode cX12_laysLines 49 = .ok (.imul, 1) := by decide +kernel
theorem dX12_laysLines_50 : decode cX12_laysLines 50 = .ok (.iload_n 3, 1) := by decide +kernel
theorem dX12_laysLines_51 : decode cX12_laysLines 51 = .ok (.iadd, 1) := by decide +kernel
theorem dX12_laysLines_52 : decode cX12_laysLines 52 = .ok (.aload_n 0, 1) := by decide +kernel
theorem dX12_laysLines_53 : decode cX12_laysLines 53 = .ok (.getfield 90, 3) := by decide +kernel
theorem dX12_laysLines_56 : decode cX12_laysLines 56 = .ok (.bipush 40, 2) := by decide +kernel
theorem dX12_laysLines_58 : decode cX12_laysLines 58 = .ok (.iload_n 1, 1) := by decide +kernel
theorem dX12_laysLines_59 : decode cX12_laysLines 59 = .ok (.imul, 1) := by decide +kernel
theorem dX12_laysLines_60 : decode cX12_laysLines 60 = .ok (.iload_n 3, 1) := by decide +kernel
theorem dX12_laysLines_61 : decode cX12_laysLines 61 = .ok (.iadd, 1) := by decide +kernel
theorem dX12_laysLines_62 : decode cX12_laysLines 62 = .ok (.iaload, 1) := by decide +kernel
theorem dX12_laysLines_63 : decode cX12_laysLines 63 = .ok (.iastore, 1) := by decide +kernel
theorem dX12_laysLines_64 : decode cX12_laysLines 64 = .ok (.aload_n 0, 1) := by decide +kernel
theorem dX12_laysLines_65 : decode cX12_laysLines 65 = .ok (.getfield 93, 3) := by decide +kernel
theorem dX12_laysLines_68 : decode cX12_laysLines 68 = .ok (.bipush 40, 2) := by decide +kernel
theorem dX12_laysLines_70 : decode cX12_laysLines 70 = .ok (.iload_n 2, 1) := by decide +kernel
theorem dX12_laysLines_71 : decode cX12_laysLines 71 = .ok (.imul, 1) := by decide +kernel
theorem dX12_laysLines_72 : decode cX12_laysLines 72 = .ok (.iload_n 3, 1) := by decide +kernel
theorem dX12_laysLines_73 : decode cX12_laysLines 73 = .ok (.iadd, 1) := by decide +kernel
theorem dX12_laysLines_74 : decode cX12_laysLines 74 = .ok (.aload_n 0, 1) := by decide +kernel
theorem dX12_laysLines_75 : decode cX12_laysLines 75 = .ok (.getfield 93, 3) := by decide +kernel
theorem dX12_laysLines_78 : decode cX12_laysLines 78 = .ok (.bipush 40, 2) := by decide +kernel
theorem dX12_laysLines_80 : decode cX12_laysLines 80 = .ok (.iload_n 1, 1) := by decide +kernel
theorem dX12_laysLines_81 : decode cX12_laysLines 81 = .ok (.imul, 1) := by decide +kernel
theorem dX12_laysLines_82 : decode cX12_laysLines 82 = .ok (.iload_n 3, 1) := by decide +kernel
theorem dX12_laysLines_83 : decode cX12_laysLines 83 = .ok (.iadd, 1) := by decide +kernel
theorem dX12_laysLines_84 : decode cX12_laysLines 84 = .ok (.iaload, 1) := by decide +kernel
theorem dX12_laysLines_85 : decode cX12_laysLines 85 = .ok (.iastore, 1) := by decide +kernel
theorem dX12_laysLines_86 : decode cX12_laysLines 86 = .ok (.aload_n 0, 1) := by decide +kernel
theorem dX12_laysLines_87 : decode cX12_laysLines 87 = .ok (.getfield 96, 3) := by decide +kernel
theorem dX12_laysLines_90 : decode cX12_laysLines 90 = .ok (.bipush 40, 2) := by decide +kernel
theorem dX12_laysLines_92 : decode cX12_laysLines 92 = .ok (.iload_n 2, 1) := by decide +kernel
theorem dX12_laysLines_93 : decode cX12_laysLines 93 = .ok (.imul, 1) := by decide +kernel
theorem dX12_laysLines_94 : decode cX12_laysLines 94 = .ok (.iload_n 3, 1) := by decide +kernel
theorem dX12_laysLines_95 : decode cX12_laysLines 95 = .ok (.iadd, 1) := by decide +kernel
theorem dX12_laysLines_96 : decode cX12_laysLines 96 = .ok (.aload_n 0, 1) := by decide +kernel
theorem dX12_laysLines_97 : decode cX12_laysLines 97 = .ok (.getfield 96, 3) := by decide +kernel
theorem dX12_laysLines_100 : decode cX12_laysLines 100 = .ok (.bipush 40, 2) := by decide +kernel
theorem dX12_laysLines_102 : decode cX12_laysLines 102 = .ok (.iload_n 1, 1) := by decide +kernel
theorem dX12_laysLines_103 : decode cX12_laysLines 103 = .ok (.imul, 1) := by decide +kernel
theorem dX12_laysLines_104 : decode cX12_laysLines 104 = .ok (.iload_n 3, 1) := by decide +kernel
theorem dX12_laysLines_105 : decode cX12_laysLines 105 = .ok (.iadd, 1) := by decide +kernel
theorem dX12_laysLines_106 : decode cX12_laysLines 106 = .ok (.iaload, 1) := by decide +kernel
theorem dX12_laysLines_107 : decode cX12_laysLines 107 = .ok (.iastore, 1) := by decide +kernel
theorem dX12_laysLines_108 : decode cX12_laysLines 108 = .ok (.iinc 3 1, 3) := by decide +kernel
theorem dX12_laysLines_111 : decode cX12_laysLines 111 = .ok (.goto (-97), 3) := by decide +kernel
theorem dX12_laysLines_114 : decode cX12_laysLines 114 = .ok (.return_, 1) := by decide +kernel
theorem dX12_laysSaid_0 : decode cX12_laysSaid 0 = .ok (.aload_n 0, 1) := by decide +kernel
theorem dX12_laysSaid_1 : decode cX12_laysSaid 1 = .ok (.getfield 99, 3) := by decide +kernel
theorem dX12_laysSaid_4 : decode cX12_laysSaid 4 = .ok (.iload_n 2, 1) := by decide +kernel
theorem dX12_laysSaid_5 : decode cX12_laysSaid 5 = .ok (.aload_n 0, 1) := by decide +kernel
theorem dX12_laysSaid_6 : decode cX12_laysSaid 6 = .ok (.getfield 99, 3) := by decide +kernel
theorem dX12_laysSaid_9 : decode cX12_laysSaid 9 = .ok (.iload_n 1, 1) := by decide +kernel
theorem dX12_laysSaid_10 : decode cX12_laysSaid 10 = .ok (.iaload, 1) := by decide +kernel
theorem dX12_laysSaid_11 : decode cX12_laysSaid 11 = .ok (.iastore, 1) := by decide +kernel
theorem dX12_laysSaid_12 : decode cX12_laysSaid 12 = .ok (.iconst 0, 1) := by decide +kernel
theorem dX12_laysSaid_13 : decode cX12_laysSaid 13 = .ok (.istore_n 3, 1) := by decide +kernel
theorem dX12_laysSaid_14 : decode cX12_laysSaid 14 = .ok (.iload_n 3, 1) := by decide +kernel
theorem dX12_laysSaid_15 : decode cX12_laysSaid 15 = .ok (.bipush 8, 2) := by decide +kernel
theorem dX12_laysSaid_17 : decode cX12_laysSaid 17 = .ok (.if_icmp .ge 53, 3) := by decide +kernel
theorem dX12_laysSaid_20 : decode cX12_laysSaid 20 = .ok (.aload_n 0, 1) := by decide +kernel
theorem dX12_laysSaid_21 : decode cX12_laysSaid 21 = .ok (.getfield 102, 3) := by decide +kernel
theorem dX12_laysSaid_24 : decode cX12_laysSaid 24 = .ok (.bipush 8, 2) := by decide +kernel
theorem dX12_laysSaid_26 : decode cX12_laysSaid 26 = .ok (.iload_n 2, 1) := by decide +kernel
theorem dX12_laysSaid_27 : decode cX12_laysSaid 27 = .ok (.imul, 1) := by decide +kernel
theorem dX12_laysSaid_28 : decode cX12_laysSaid 28 = .ok (.iload_n 3, 1) := by decide +kernel
theorem dX12_laysSaid_29 : decode cX12_laysSaid 29 = .ok (.iadd, 1) := by decide +kernel
theorem dX12_laysSaid_30 : decode cX12_laysSaid 30 = .ok (.aload_n 0, 1) := by decide +kernel
theorem dX12_laysSaid_31 : decode cX12_laysSaid 31 = .ok (.getfield 102, 3) := by decide +kernel
theorem dX12_laysSaid_34 : decode cX12_laysSaid 34 = .ok (.bipush 8, 2) := by decide +kernel
theorem dX12_laysSaid_36 : decode cX12_laysSaid 36 = .ok (.iload_n 1, 1) := by decide +kernel
theorem dX12_laysSaid_37 : decode cX12_laysSaid 37 = .ok (.imul, 1) := by decide +kernel
theorem dX12_laysSaid_38 : decode cX12_laysSaid 38 = .ok (.iload_n 3, 1) := by decide +kernel
theorem dX12_laysSaid_39 : decode cX12_laysSaid 39 = .ok (.iadd, 1) := by decide +kernel
theorem dX12_laysSaid_40 : decode cX12_laysSaid 40 = .ok (.iaload, 1) := by decide +kernel
theorem dX12_laysSaid_41 : decode cX12_laysSaid 41 = .ok (.iastore, 1) := by decide +kernel
theorem dX12_laysSaid_42 : decode cX12_laysSaid 42 = .ok (.aload_n 0, 1) := by decide +kernel
theorem dX12_laysSaid_43 : decode cX12_laysSaid 43 = .ok (.getfield 105, 3) := by decide +kernel
theorem dX12_laysSaid_46 : decode cX12_laysSaid 46 = .ok (.bipush 8, 2) := by decide +kernel
theorem dX12_laysSaid_48 : decode cX12_laysSaid 48 = .ok (.iload_n 2, 1) := by decide +kernel
theorem dX12_laysSaid_49 : decode cX12_laysSaid 49 = .ok (.imul, 1) := by decide +kernel
theorem dX12_laysSaid_50 : decode cX12_laysSaid 50 = .ok (.iload_n 3, 1) := by decide +kernel
theorem dX12_laysSaid_51 : decode cX12_laysSaid 51 = .ok (.iadd, 1) := by decide +kernel
theorem dX12_laysSaid_52 : decode cX12_laysSaid 52 = .ok (.aload_n 0, 1) := by decide +kernel
theorem dX12_laysSaid_53 : decode cX12_laysSaid 53 = .ok (.getfield 105, 3) := by decide +kernel
theorem dX12_laysSaid_56 : decode cX12_laysSaid 56 = .ok (.bipush 8, 2) := by decide +kernel
theorem dX12_laysSaid_58 : decode cX12_laysSaid 58 = .ok (.iload_n 1, 1) := by decide +kernel
theorem dX12_laysSaid_59 : decode cX12_laysSaid 59 = .ok (.imul, 1) := by decide +kernel
theorem dX12_laysSaid_60 : decode cX12_laysSaid 60 = .ok (.iload_n 3, 1) := by decide +kernel
theorem dX12_laysSaid_61 : decode cX12_laysSaid 61 = .ok (.iadd, 1) := by decide +kernel
theorem dX12_laysSaid_62 : decode cX12_laysSaid 62 = .ok (.baload, 1) := by decide +kernel
theorem dX12_laysSaid_63 : decode cX12_laysSaid 63 = .ok (.bastore, 1) := by decide +kernel
theorem dX12_laysSaid_64 : decode cX12_laysSaid 64 = .ok (.iinc 3 1, 3) := by decide +kernel
theorem dX12_laysSaid_67 : decode cX12_laysSaid 67 = .ok (.goto (-53), 3) := by decide +kernel
theorem dX12_laysSaid_70 : decode cX12_laysSaid 70 = .ok (.return_, 1) := by decide +kernel
theorem dX12_fresh0_0 : decode cX12_fresh0 0 = .ok (.iconst 0, 1) := by decide +kernel
theorem dX12_fresh0_1 : decode cX12_fresh0 1 = .ok (.istore_n 1, 1) := by decide +kernel
theorem dX12_fresh0_2 : decode cX12_fresh0 2 = .ok (.iload_n 1, 1) := by decide +kernel
theorem dX12_fresh0_3 : decode cX12_fresh0 3 = .ok (.bipush 14, 2) := by decide +kernel
theorem dX12_fresh0_5 : decode cX12_fresh0 5 = .ok (.if_icmp .ge 16, 3) := by decide +kernel
theorem dX12_fresh0_8 : decode cX12_fresh0 8 = .ok (.aload_n 0, 1) := by decide +kernel
theorem dX12_fresh0_9 : decode cX12_fresh0 9 = .ok (.getfield 108, 3) := by decide +kernel
theorem dX12_fresh0_12 : decode cX12_fresh0 12 = .ok (.iload_n 1, 1) := by decide +kernel
theorem dX12_fresh0_13 : decode cX12_fresh0 13 = .ok (.iconst 0, 1) := by decide +kernel
theorem dX12_fresh0_14 : decode cX12_fresh0 14 = .ok (.iastore, 1) := by decide +kernel
theorem dX12_fresh0_15 : decode cX12_fresh0 15 = .ok (.iinc 1 1, 3) := by decide +kernel
theorem dX12_fresh0_18 : decode cX12_fresh0 18 = .ok (.goto (-16), 3) := by decide +kernel
theorem dX12_fresh0_21 : decode cX12_fresh0 21 = .ok (.iconst 0, 1) := by decide +kernel
theorem dX12_fresh0_22 : decode cX12_fresh0 22 = .ok (.istore_n 1, 1) := by decide +kernel
theorem dX12_fresh0_23 : decode cX12_fresh0 23 = .ok (.iload_n 1, 1) := by decide +kernel
theorem dX12_fresh0_24 : decode cX12_fresh0 24 = .ok (.aload_n 0, 1) := by decide +kernel
theorem dX12_fresh0_25 : decode cX12_fresh0 25 = .ok (.getfield 13, 3) := by decide +kernel
theorem dX12_fresh0_28 : decode cX12_fresh0 28 = .ok (.iconst 0, 1) := by decide +kernel
theorem dX12_fresh0_29 : decode cX12_fresh0 29 = .ok (.iaload, 1) := by decide +kernel
theorem dX12_fresh0_30 : decode cX12_fresh0 30 = .ok (.if_icmp .ge 23, 3) := by decide +kernel
theorem dX12_fresh0_33 : decode cX12_fresh0 33 = .ok (.aload_n 0, 1) := by decide +kernel
theorem dX12_fresh0_34 : decode cX12_fresh0 34 = .ok (.getfield 108, 3) := by decide +kernel
theorem dX12_fresh0_37 : decode cX12_fresh0 37 = .ok (.iconst 3, 1) := by decide +kernel
theorem dX12_fresh0_38 : decode cX12_fresh0 38 = .ok (.iload_n 1, 1) := by decide +kernel
theorem dX12_fresh0_39 : decode cX12_fresh0 39 = .ok (.iadd, 1) := by decide +kernel
theorem dX12_fresh0_40 : decode cX12_fresh0 40 = .ok (.aload_n 0, 1) := by decide +kernel
theorem dX12_fresh0_41 : decode cX12_fresh0 41 = .ok (.getfield 29, 3) := by decide +kernel
theorem dX12_fresh0_44 : decode cX12_fresh0 44 = .ok (.iload_n 1, 1) := by decide +kernel
theorem dX12_fresh0_45 : decode cX12_fresh0 45 = .ok (.iaload, 1) := by decide +kernel
theorem dX12_fresh0_46 : decode cX12_fresh0 46 = .ok (.iastore, 1) := by decide +kernel
theorem dX12_fresh0_47 : decode cX12_fresh0 47 = .ok (.iinc 1 1, 3) := by decide +kernel
theorem dX12_fresh0_50 : decode cX12_fresh0 50 = .ok (.goto (-27), 3) := by decide +kernel
theorem dX12_fresh0_53 : decode cX12_fresh0 53 = .ok (.iconst 0, 1) := by decide +kernel
theorem dX12_fresh0_54 : decode cX12_fresh0 54 = .ok (.istore_n 1, 1) := by decide +kernel
theorem dX12_fresh0_55 : decode cX12_fresh0 55 = .ok (.iload_n 1, 1) := by decide +kernel
theorem dX12_fresh0_56 : decode cX12_fresh0 56 = .ok (.aload_n 0, 1) := by decide +kernel
theorem dX12_fresh0_57 : decode cX12_fresh0 57 = .ok (.getfield 13, 3) := by decide +kernel
theorem dX12_fresh0_60 : decode cX12_fresh0 60 = .ok (.iconst 1, 1) := by decide +kernel
theorem dX12_fresh0_61 : decode cX12_fresh0 61 = .ok (.iaload, 1) := by decide +kernel
theorem dX12_fresh0_62 : decode cX12_fresh0 62 = .ok (.if_icmp .ge 24, 3) := by decide +kernel
theorem dX12_fresh0_65 : decode cX12_fresh0 65 = .ok (.aload_n 0, 1) := by decide +kernel
theorem dX12_fresh0_66 : decode cX12_fresh0 66 = .ok (.getfield 108, 3) := by decide +kernel
theorem dX12_fresh0_69 : decode cX12_fresh0 69 = .ok (.bipush 9, 2) := by decide +kernel
theorem dX12_fresh0_71 : decode cX12_fresh0 71 = .ok (.iload_n 1, 1) := by decide +kernel
theorem dX12_fresh0_72 : decode cX12_fresh0 72 = .ok (.iadd, 1) := by decide +kernel
theorem dX12_fresh0_73 : decode cX12_fresh0 73 = .ok (.aload_n 0, 1) := by decide +kernel
theorem dX12_fresh0_74 : decode cX12_fresh0 74 = .ok (.getfield 32, 3) := by decide +kernel
theorem dX12_fresh0_77 : decode cX12_fresh0 77 = .ok (.iload_n 1, 1) := by decide +kernel
theorem dX12_fresh0_78 : decode cX12_fresh0 78 = .ok (.iaload, 1) := by decide +kernel
theorem dX12_fresh0_79 : decode cX12_fresh0 79 = .ok (.iastore, 1) := by decide +kernel
theorem dX12_fresh0_80 : decode cX12_fresh0 80 = .ok (.iinc 1 1, 3) := by decide +kernel
theorem dX12_fresh0_83 : decode cX12_fresh0 83 = .ok (.goto (-28), 3) := by decide +kernel
theorem dX12_fresh0_86 : decode cX12_fresh0 86 = .ok (.return_, 1) := by decide +kernel
theorem dX12_republic_0 : decode cX12_republic 0 = .ok (.aload_n 0, 1) := by decide +kernel
theorem dX12_republic_1 : decode cX12_republic 1 = .ok (.iconst 0, 1) := by decide +kernel
theorem dX12_republic_2 : decode cX12_republic 2 = .ok (.putfield 133, 3) := by decide +kernel
theorem dX12_republic_5 : decode cX12_republic 5 = .ok (.aload_n 0, 1) := by decide +kernel
theorem dX12_republic_6 : decode cX12_republic 6 = .ok (.invokevirtual 332, 3) := by decide +kernel
theorem dX12_republic_9 : decode cX12_republic 9 = .ok (.ifCond .ne 8, 3) := by decide +kernel
theorem dX12_republic_12 : decode cX12_republic 12 = .ok (.aload_n 0, 1) := by decide +kernel
theorem dX12_republic_13 : decode cX12_republic 13 = .ok (.getfield 169, 3) := by decide +kernel
theorem dX12_republic_16 : decode cX12_republic 16 = .ok (.ireturn, 1) := by decide +kernel
theorem dX12_republic_17 : decode cX12_republic 17 = .ok (.aload_n 0, 1) := by decide +kernel
theorem dX12_republic_18 : decode cX12_republic 18 = .ok (.invokevirtual 335, 3) := by decide +kernel
theorem dX12_republic_21 : decode cX12_republic 21 = .ok (.aload_n 0, 1) := by decide +kernel
theorem dX12_republic_22 : decode cX12_republic 22 = .ok (.invokevirtual 338, 3) := by decide +kernel
theorem dX12_republic_25 : decode cX12_republic 25 = .ok (.aload_n 0, 1) := by decide +kernel
theorem dX12_republic_26 : decode cX12_republic 26 = .ok (.getfield 84, 3) := by decide +kernel
theorem dX12_republic_29 : decode cX12_republic 29 = .ok (.iconst 0, 1) := by decide +kernel
theorem dX12_republic_30 : decode cX12_republic 30 = .ok (.iconst 0, 1) := by decide +kernel
theorem dX12_republic_31 : decode cX12_republic 31 = .ok (.iastore, 1) := by decide +kernel
theorem dX12_republic_32 : decode cX12_republic 32 = .ok (.aload_n 0, 1) := by decide +kernel
theorem dX12_republic_33 : decode cX12_republic 33 = .ok (.getfield 99, 3) := by decide +kernel
theorem dX12_republic_36 : decode cX12_republic 36 = .ok (.iconst 0, 1) := by decide +kernel
theorem dX12_republic_37 : decode cX12_republic 37 = .ok (.iconst 0, 1) := by decide +kernel
theorem dX12_republic_38 : decode cX12_republic 38 = .ok (.iastore, 1) := by decide +kernel
theorem dX12_republic_39 : decode cX12_republic 39 = .ok (.aload_n 0, 1) := by decide +kernel
theorem dX12_republic_40 : decode cX12_republic 40 = .ok (.iconst 0, 1) := by decide +kernel
theorem dX12_republic_41 : decode cX12_republic 41 = .ok (.putfield 341, 3) := by decide +kernel
theorem dX12_republic_44 : decode cX12_republic 44 = .ok (.iconst 0, 1) := by decide +kernel
theorem dX12_republic_45 : decode cX12_republic 45 = .ok (.istore_n 1, 1) := by decide +kernel
theorem dX12_republic_46 : decode cX12_republic 46 = .ok (.iload_n 1, 1) := by decide +kernel
theorem dX12_republic_47 : decode cX12_republic 47 = .ok (.iconst 4, 1) := by decide +kernel
theorem dX12_republic_48 : decode cX12_republic 48 = .ok (.if_icmp .ge 16, 3) := by decide +kernel
theorem dX12_republic_51 : decode cX12_republic 51 = .ok (.aload_n 0, 1) := by decide +kernel
theorem dX12_republic_52 : decode cX12_republic 52 = .ok (.getfield 123, 3) := by decide +kernel
theorem dX12_republic_55 : decode cX12_republic 55 = .ok (.iload_n 1, 1) := by decide +kernel
theorem dX12_republic_56 : decode cX12_republic 56 = .ok (.iconst 0, 1) := by decide +kernel
theorem dX12_republic_57 : decode cX12_republic 57 = .ok (.bastore, 1) := by decide +kernel
theorem dX12_republic_58 : decode cX12_republic 58 = .ok (.iinc 1 1, 3) := by decide +kernel
theorem dX12_republic_61 : decode cX12_republic 61 = .ok (.goto (-15), 3) := by decide +kernel
theorem dX12_republic_64 : decode cX12_republic 64 = .ok (.iconst 0, 1) := by decide +kernel
theorem dX12_republic_65 : decode cX12_republic 65 = .ok (.ireturn, 1) := by decide +kernel
theorem dX12_term_0 : decode cX12_term 0 = .ok (.aload_n 0, 1) := by decide +kernel
theorem dX12_term_1 : decode cX12_term 1 = .ok (.iconst 0, 1) := by decide +kernel
theorem dX12_term_2 : decode cX12_term 2 = .ok (.putfield 133, 3) := by decide +kernel
theorem dX12_term_5 : decode cX12_term 5 = .ok (.aload_n 0, 1) := by decide +kernel
theorem dX12_term_6 : decode cX12_term 6 = .ok (.getfield 84, 3) := by decide +kernel
theorem dX12_term_9 : decode cX12_term 9 = .ok (.iconst 5, 1) := by decide +kernel
theorem dX12_term_10 : decode cX12_term 10 = .ok (.iconst 0, 1) := by decide +kernel
theorem dX12_term_11 : decode cX12_term 11 = .ok (.iastore, 1) := by decide +kernel
theorem dX12_term_12 : decode cX12_term 12 = .ok (.aload_n 0, 1) := by decide +kernel
theorem dX12_term_13 : decode cX12_term 13 = .ok (.invokevirtual 306, 3) := by decide +kernel
theorem dX12_term_16 : decode cX12_term 16 = .ok (.aload_n 0, 1) := by decide +kernel
theorem dX12_term_17 : decode cX12_term 17 = .ok (.getfield 158, 3) := by decide +kernel
theorem dX12_term_20 : decode cX12_term 20 = .ok (.ifCond .eq 15, 3) := by decide +kernel
theorem dX12_term_23 : decode cX12_term 23 = .ok (.aload_n 0, 1) := by decide +kernel
theorem dX12_term_24 : decode cX12_term 24 = .ok (.invokevirtual 344, 3) := by decide +kernel
theorem dX12_term_27 : decode cX12_term 27 = .ok (.ifCond .ne (-11), 3) := by decide +kernel
theorem dX12_term_30 : decode cX12_term 30 = .ok (.aload_n 0, 1) := by decide +kernel
theorem dX12_term_31 : decode cX12_term 31 = .ok (.getfield 169, 3) := by decide +kernel
theorem dX12_term_34 : decode cX12_term 34 = .ok (.ireturn, 1) := by decide +kernel
theorem dX12_term_35 : decode cX12_term 35 = .ok (.aload_n 0, 1) := by decide +kernel
theorem dX12_term_36 : decode cX12_term 36 = .ok (.iconst 5, 1) := by decide +kernel
theorem dX12_term_37 : decode cX12_term 37 = .ok (.iconst 0, 1) := by decide +kernel
theorem dX12_term_38 : decode cX12_term 38 = .ok (.invokevirtual 347, 3) := by decide +kernel
theorem dX12_term_41 : decode cX12_term 41 = .ok (.iconst 0, 1) := by decide +kernel
theorem dX12_term_42 : decode cX12_term 42 = .ok (.ireturn, 1) := by decide +kernel
theorem dX12_isWare_0 : decode cX12_isWare 0 = .ok (.iload_n 1, 1) := by decide +kernel
theorem dX12_isWare_1 : decode cX12_isWare 1 = .ok (.ifCond .lt 17, 3) := by decide +kernel
theorem dX12_isWare_4 : decode cX12_isWare 4 = .ok (.iload_n 1, 1) := by decide +kernel
theorem dX12_isWare_5 : decode cX12_isWare 5 = .ok (.aload_n 0, 1) := by decide +kernel
theorem dX12_isWare_6 : decode cX12_isWare 6 = .ok (.getfield 13, 3) := by decide +kernel
theorem dX12_isWare_9 : decode cX12_isWare 9 = .ok (.iconst 0, 1) := by decide +kernel
theorem dX12_isWare_10 : decode cX12_isWare 10 = .ok (.iaload, 1) := by decide +kernel
theorem dX12_isWare_11 : decode cX12_isWare 11 = .ok (.if_icmp .ge 7, 3) := by decide +kernel
theorem dX12_isWare_14 : decode cX12_isWare 14 = .ok (.iconst 1, 1) := by decide +kernel
theorem dX12_isWare_15 : decode cX12_isWare 15 = .ok (.goto 4, 3) := by decide +kernel
theorem dX12_isWare_18 : decode cX12_isWare 18 = .ok (.iconst 0, 1) := by decide +kernel
theorem dX12_isWare_19 : decode cX12_isWare 19 = .ok (.ireturn, 1) := by decide +kernel
theorem dX12_isParty_0 : decode cX12_isParty 0 = .ok (.iload_n 1, 1) := by decide +kernel
theorem dX12_isParty_1 : decode cX12_isParty 1 = .ok (.ifCond .lt 17, 3) := by decide +kernel
theorem dX12_isParty_4 : decode cX12_isParty 4 = .ok (.iload_n 1, 1) := by decide +kernel
theorem dX12_isParty_5 : decode cX12_isParty 5 = .ok (.aload_n 0, 1) := by decide +kernel
theorem dX12_isParty_6 : decode cX12_isParty 6 = .ok (.getfield 13, 3) := by decide +kernel
theorem dX12_isParty_9 : decode cX12_isParty 9 = .ok (.iconst 1, 1) := by decide +kernel
theorem dX12_isParty_10 : decode cX12_isParty 10 = .ok (.iaload, 1) := by decide +kernel
theorem dX12_isParty_11 : decode cX12_isParty 11 = .ok (.if_icmp .ge 7, 3) := by decide +kernel
theorem dX12_isParty_14 : decode cX12_isParty 14 = .ok (.iconst 1, 1) := by decide +kernel
theorem dX12_isParty_15 : decode cX12_isParty 15 = .ok (.goto 4, 3) := by decide +kernel
theorem dX12_isParty_18 : decode cX12_isParty 18 = .ok (.iconst 0, 1) := by decide +kernel
theorem dX12_isParty_19 : decode cX12_isParty 19 = .ok (.ireturn, 1) := by decide +kernel
theorem dX12_halfOf_0 : decode cX12_halfOf 0 = .ok (.aload_n 0, 1) := by decide +kernel
theorem dX12_halfOf_1 : decode cX12_halfOf 1 = .ok (.getfield 26, 3) := by decide +kernel
theorem dX12_halfOf_4 : decode cX12_halfOf 4 = .ok (.iload_n 1, 1) := by decide +kernel
theorem dX12_halfOf_5 : decode cX12_halfOf 5 = .ok (.iaload, 1) := by decide +kernel
theorem dX12_halfOf_6 : decode cX12_halfOf 6 = .ok (.iconst 2, 1) := by decide +kernel
theorem dX12_halfOf_7 : decode cX12_halfOf 7 = .ok (.idiv, 1) := by decide +kernel
theorem dX12_halfOf_8 : decode cX12_halfOf 8 = .ok (.ireturn, 1) := by decide +kernel
theorem dX12_isHalf_0 : decode cX12_isHalf 0 = .ok (.aload_n 0, 1) := by decide +kernel
theorem dX12_isHalf_1 : decode cX12_isHalf 1 = .ok (.getfield 108, 3) := by decide +kernel
theorem dX12_isHalf_4 : decode cX12_isHalf 4 = .ok (.iconst 3, 1) := by decide +kernel
theorem dX12_isHalf_5 : decode cX12_isHalf 5 = .ok (.iload_n 1, 1) := by decide +kernel
theorem dX12_isHalf_6 : decode cX12_isHalf 6 = .ok (.iadd, 1) := by decide +kernel
theorem dX12_isHalf_7 : decode cX12_isHalf 7 = .ok (.iaload, 1) := by decide +kernel
theorem dX12_isHalf_8 : decode cX12_isHalf 8 = .ok (.aload_n 0, 1) := by decide +kernel
theorem dX12_isHalf_9 : decode cX12_isHalf 9 = .ok (.iload_n 1, 1) := by decide +kernel
theorem dX12_isHalf_10 : decode cX12_isHalf 10 = .ok (.invokevirtual 351, 3) := by decide +kernel
theorem dX12_isHalf_13 : decode cX12_isHalf 13 = .ok (.if_icmp .ne 7, 3) := by decide +kernel
theorem dX12_isHalf_16 : decode cX12_isHalf 16 = .ok (.iconst 1, 1) := by decide +kernel
theorem dX12_isHalf_17 : decode cX12_isHalf 17 = .ok (.goto 4, 3) := by decide +kernel
theorem dX12_isHalf_20 : decode cX12_isHalf 20 = .ok (.iconst 0, 1) := by decide +kernel
theorem dX12_isHalf_21 : decode cX12_isHalf 21 = .ok (.ireturn, 1) := by decide +kernel
theorem dX12_blocOf_0 : decode cX12_blocOf 0 = .ok (.iconst 0, 1) := by decide +kernel
theorem dX12_blocOf_1 : decode cX12_blocOf 1 = .ok (.istore_n 2, 1) := by decide +kernel
theorem dX12_blocOf_2 : decode cX12_blocOf 2 = .ok (.iconst 0, 1) := by decide +kernel
theorem dX12_blocOf_3 : decode cX12_blocOf 3 = .ok (.istore_n 3, 1) := by decide +kernel
theorem dX12_blocOf_4 : decode cX12_blocOf 4 = .ok (.iload_n 3, 1) := by decide +kernel
theorem dX12_blocOf_5 : decode cX12_blocOf 5 = .ok (.aload_n 0, 1) := by decide +kernel
theorem dX12_blocOf_6 : decode cX12_blocOf 6 = .ok (.getfield 13, 3) := by decide +kernel
theorem dX12_blocOf_9 : decode cX12_blocOf 9 = .ok (.iconst 1, 1) := by decide +kernel
theorem dX12_blocOf_10 : decode cX12_blocOf 10 = .ok (.iaload, 1) := by decide +kernel
theorem dX12_blocOf_11 : decode cX12_blocOf 11 = .ok (.if_icmp .ge 24, 3) := by decide +kernel
theorem dX12_blocOf_14 : decode cX12_blocOf 14 = .ok (.iload_n 2, 1) := by decide +kernel
theorem dX12_blocOf_15 : decode cX12_blocOf 15 = .ok (.aload_n 0, 1) := by decide +kernel
theorem dX12_blocOf_16 : decode cX12_blocOf 16 = .ok (.getfield 35, 3) := by decide +kernel
theorem dX12_blocOf_19 : decode cX12_blocOf 19 = .ok (.iload_n 3, 1) := by decide +kernel
theorem dX12_blocOf_20 : decode cX12_blocOf 20 = .ok (.iaload, 1) := by decide +kernel
theorem dX12_blocOf_21 : decode cX12_blocOf 21 = .ok (.iload_n 1, 1) := by decide +kernel
theorem dX12_blocOf_22 : decode cX12_blocOf 22 = .ok (.ishr, 1) := by decide +kernel
theorem dX12_blocOf_23 : decode cX12_blocOf 23 = .ok (.iconst 1, 1) := by decide +kernel
theorem dX12_blocOf_24 : decode cX12_blocOf 24 = .ok (.iand, 1) := by decide +kernel
theorem dX12_blocOf_25 : decode cX12_blocOf 25 = .ok (.iload_n 3, 1) := by decide +kernel
theorem dX12_blocOf_26 : decode cX12_blocOf 26 = .ok (.ishl, 1) := by decide +kernel
theorem dX12_blocOf_27 : decode cX12_blocOf 27 = .ok (.ior, 1) := by decide +kernel
theorem dX12_blocOf_28 : decode cX12_blocOf 28 = .ok (.istore_n 2, 1) := by decide +kernel
theorem dX12_blocOf_29 : decode cX12_blocOf 29 = .ok (.iinc 3 1, 3) := by decide +kernel
theorem dX12_blocOf_32 : decode cX12_blocOf 32 = .ok (.goto (-28), 3) := by decide +kernel
theorem dX12_blocOf_35 : decode cX12_blocOf 35 = .ok (.iload_n 2, 1) := by decide +kernel
theorem dX12_blocOf_36 : decode cX12_blocOf 36 = .ok (.ireturn, 1) := by decide +kernel
theorem dX12_seatsOf_0 : decode cX12_seatsOf 0 = .ok (.iconst 0, 1) := by decide +kernel
theorem dX12_seatsOf_1 : decode cX12_seatsOf 1 = .ok (.istore_n 2, 1) := by decide +kernel
theorem dX12_seatsOf_2 : decode cX12_seatsOf 2 = .ok (.iconst 0, 1) := by decide +kernel
theorem dX12_seatsOf_3 : decode cX12_seatsOf 3 = .ok (.istore_n 3, 1) := by decide +kernel
theorem dX12_seatsOf_4 : decode cX12_seatsOf 4 = .ok (.iload_n 3, 1) := by decide +kernel
theorem dX12_seatsOf_5 : decode cX12_seatsOf 5 = .ok (.aload_n 0, 1) := by decide +kernel
theorem dX12_seatsOf_6 : decode cX12_seatsOf 6 = .ok (.getfield 13, 3) := by decide +kernel
theorem dX12_seatsOf_9 : decode cX12_seatsOf 9 = .ok (.iconst 1, 1) := by decide +kernel
theorem dX12_seatsOf_10 : decode cX12_seatsOf 10 = .ok (.iaload, 1) := by decide +kernel
theorem dX12_seatsOf_11 : decode cX12_seatsOf 11 = .ok (.if_icmp .ge 34, 3) := by decide +kernel
theorem dX12_seatsOf_14 : decode cX12_seatsOf 14 = .ok (.iload_n 2, 1) := by decide +kernel
theorem dX12_seatsOf_15 : decode cX12_seatsOf 15 = .ok (.iload_n 1, 1) := by decide +kernel
theorem dX12_seatsOf_16 : decode cX12_seatsOf 16 = .ok (.iload_n 3, 1) := by decide +kernel
theorem dX12_seatsOf_17 : decode cX12_seatsOf 17 = .ok (.ishr, 1) := by decide +kernel
theorem dX12_seatsOf_18 : decode cX12_seatsOf 18 = .ok (.iconst 1, 1) := by decide +kernel
theorem dX12_seatsOf_19 : decode cX12_seatsOf 19 = .ok (.iand, 1) := by decide +kernel
theorem dX12_seatsOf_20 : decode cX12_seatsOf 20 = .ok (.iconst 1, 1) := by decide +kernel
theorem dX12_seatsOf_21 : decode cX12_seatsOf 21 = .ok (.if_icmp .ne 15, 3) := by decide +kernel
theorem dX12_seatsOf_24 : decode cX12_seatsOf 24 = .ok (.aload_n 0, 1) := by decide +kernel
theorem dX12_seatsOf_25 : decode cX12_seatsOf 25 = .ok (.getfield 108, 3) := by decide +kernel
theorem dX12_seatsOf_28 : decode cX12_seatsOf 28 = .ok (.bipush 9, 2) := by decide +kernel
theorem dX12_seatsOf_30 : decode cX12_seatsOf 30 = .ok (.iload_n 3, 1) := by decide +kernel
theorem dX12_seatsOf_31 : decode cX12_seatsOf 31 = .ok (.iadd, 1) := by decide +kernel
theorem dX12_seatsOf_32 : decode cX12_seatsOf 32 = .ok (.iaload, 1) := by decide +kernel
theorem dX12_seatsOf_33 : decode cX12_seatsOf 33 = .ok (.goto 4, 3) := by decide +kernel
theorem dX12_seatsOf_36 : decode cX12_seatsOf 36 = .ok (.iconst 0, 1) := by decide +kernel
theorem dX12_seatsOf_37 : decode cX12_seatsOf 37 = .ok (.iadd, 1) := by decide +kernel
theorem dX12_seatsOf_38 : decode cX12_seatsOf 38 = .ok (.istore_n 2, 1) := by decide +kernel
theorem dX12_seatsOf_39 : decode cX12_seatsOf 39 = .ok (.iinc 3 1, 3) := by decide +kernel
theorem dX12_seatsOf_42 : decode cX12_seatsOf 42 = .ok (.goto (-38), 3) := by decide +kernel
theorem dX12_seatsOf_45 : decode cX12_seatsOf 45 = .ok (.iload_n 2, 1) := by decide +kernel
theorem dX12_seatsOf_46 : decode cX12_seatsOf 46 = .ok (.ireturn, 1) := by decide +kernel
theorem dX12_allSeats_0 : decode cX12_allSeats 0 = .ok (.aload_n 0, 1) := by decide +kernel
theorem dX12_allSeats_1 : decode cX12_allSeats 1 = .ok (.bipush 31, 2) := by decide +kernel
theorem dX12_allSeats_3 : decode cX12_allSeats 3 = .ok (.invokevirtual 354, 3) := by decide +kernel
theorem dX12_allSeats_6 : decode cX12_allSeats 6 = .ok (.ireturn, 1) := by decide +kernel
theorem dX12_votesOf_0 : decode cX12_votesOf 0 = .ok (.aload_n 0, 1) := by decide +kernel
theorem dX12_votesOf_1 : decode cX12_votesOf 1 = .ok (.aload_n 0, 1) := by decide +kernel
theorem dX12_votesOf_2 : decode cX12_votesOf 2 = .ok (.iload_n 1, 1) := by decide +kernel
theorem dX12_votesOf_3 : decode cX12_votesOf 3 = .ok (.invokevirtual 357, 3) := by decide +kernel
theorem dX12_votesOf_6 : decode cX12_votesOf 6 = .ok (.invokevirtual 354, 3) := by decide +kernel
theorem dX12_votesOf_9 : decode cX12_votesOf 9 = .ok (.ireturn, 1) := by decide +kernel
theorem dX12_works_0 : decode cX12_works 0 = .ok (.iconst 0, 1) := by decide +kernel
theorem dX12_works_1 : decode cX12_works 1 = .ok (.aload_n 0, 1) := by decide +kernel
theorem dX12_works_2 : decode cX12_works 2 = .ok (.getfield 108, 3) := by decide +kernel
theorem dX12_works_5 : decode cX12_works 5 = .ok (.iconst 3, 1) := by decide +kernel
theorem dX12_works_6 : decode cX12_works 6 = .ok (.iload_n 1, 1) := by decide +kernel
theorem dX12_works_7 : decode cX12_works 7 = .ok (.iadd, 1) := by decide +kernel
theorem dX12_works_8 : decode cX12_works 8 = .ok (.iaload, 1) := by decide +kernel
theorem dX12_works_9 : decode cX12_works 9 = .ok (.iload_n 2, 1) := by decide +kernel
theorem dX12_works_10 : decode cX12_works 10 = .ok (.iadd, 1) := by decide +kernel
theorem dX12_works_11 : decode cX12_works 11 = .ok (.aload_n 0, 1) := by decide +kernel
theorem dX12_works_12 : decode cX12_works 12 = .ok (.iload_n 1, 1) := by decide +kernel
theorem dX12_works_13 : decode cX12_works 13 = .ok (.invokevirtual 351, 3) := by decide +kernel
theorem dX12_works_16 : decode cX12_works 16 = .ok (.isub, 1) := by decide +kernel
theorem dX12_works_17 : decode cX12_works 17 = .ok (.invokestatic 360, 3) := by decide +kernel
theorem dX12_works_20 : decode cX12_works 20 = .ok (.istore_n 3, 1) := by decide +kernel
theorem dX12_works_21 : decode cX12_works 21 = .ok (.aload_n 0, 1) := by decide +kernel
theorem dX12_works_22 : decode cX12_works 22 = .ok (.getfield 108, 3) := by decide +kernel
theorem dX12_works_25 : decode cX12_works 25 = .ok (.iconst 3, 1) := by decide +kernel
theorem dX12_works_26 : decode cX12_works 26 = .ok (.iload_n 1, 1) := by decide +kernel
theorem dX12_works_27 : decode cX12_works 27 = .ok (.iadd, 1) := by decide +kernel
theorem dX12_works_28 : decode cX12_works 28 = .ok (.dup2, 1) := by decide +kernel
theorem dX12_works_29 : decode cX12_works 29 = .ok (.iaload, 1) := by decide +kernel
theorem dX12_works_30 : decode cX12_works 30 = .ok (.iload_n 2, 1) := by decide +kernel
theorem dX12_works_31 : decode cX12_works 31 = .ok (.iload_n 3, 1) := by decide +kernel
theorem dX12_works_32 : decode cX12_works 32 = .ok (.isub, 1) := by decide +kernel
theorem dX12_works_33 : decode cX12_works 33 = .ok (.iadd, 1) := by decide +kernel
theorem dX12_works_34 : decode cX12_works 34 = .ok (.iastore, 1) := by decide +kernel
theorem dX12_works_35 : decode cX12_works 35 = .ok (.aload_n 0, 1) := by decide +kernel
theorem dX12_works_36 : decode cX12_works 36 = .ok (.getfield 108, 3) := by decide +kernel
theorem dX12_works_39 : decode cX12_works 39 = .ok (.iconst 1, 1) := by decide +kernel
theorem dX12_works_40 : decode cX12_works 40 = .ok (.dup2, 1) := by decide +kernel
theorem dX12_works_41 : decode cX12_works 41 = .ok (.iaload, 1) := by decide +kernel
theorem dX12_works_42 : decode cX12_works 42 = .ok (.iload_n 3, 1) := by decide +kernel
theorem dX12_works_43 : decode cX12_works 43 = .ok (.aload_n 0, 1) := by decide +kernel
theorem dX12_works_44 : decode cX12_works 44 = .ok (.getfield 13, 3) := by decide +kernel
theorem dX12_works_47 : decode cX12_works 47 = .ok (.iconst 2, 1) := by decide +kernel
theorem dX12_works_48 : decode cX12_works 48 = .ok (.iaload, 1) := by decide +kernel
theorem dX12_works_49 : decode cX12_works 49 = .ok (.imul, 1) := by decide +kernel
theorem dX12_works_50 : decode cX12_works 50 = .ok (.iadd, 1) := by decide +kernel
theorem dX12_works_51 : decode cX12_works 51 = .ok (.iastore, 1) := by decide +kernel
theorem dX12_works_52 : decode cX12_works 52 = .ok (.iload_n 3, 1) := by decide +kernel
theorem dX12_works_53 : decode cX12_works 53 = .ok (.aload_n 0, 1) := by decide +kernel
theorem dX12_works_54 : decode cX12_works 54 = .ok (.getfield 13, 3) := by decide +kernel
theorem dX12_works_57 : decode cX12_works 57 = .ok (.iconst 2, 1) := by decide +kernel
theorem dX12_works_58 : decode cX12_works 58 = .ok (.iaload, 1) := by decide +kernel
theorem dX12_works_59 : decode cX12_works 59 = .ok (.imul, 1) := by decide +kernel
theorem dX12_works_60 : decode cX12_works 60 = .ok (.ireturn, 1) := by decide +kernel
theorem dX12_effort_0 : decode cX12_effort 0 = .ok (.aload_n 0, 1) := by decide +kernel
theorem dX12_effort_1 : decode cX12_effort 1 = .ok (.getfield 41, 3) := by decide +kernel
theorem dX12_effort_4 : decode cX12_effort 4 = .ok (.iconst 0, 1) := by decide +kernel
theorem dX12_effort_5 : decode cX12_effort 5 = .ok (.iaload, 1) := by decide +kernel
theorem dX12_effort_6 : decode cX12_effort 6 = .ok (.aload_n 0, 1) := by decide +kernel
theorem dX12_effort_7 : decode cX12_effort 7 = .ok (.getfield 38, 3) := by decide +kernel
theorem dX12_effort_10 : decode cX12_effort 10 = .ok (.iconst 0, 1) := by decide +kernel
theorem dX12_effort_11 : decode cX12_effort 11 = .ok (.iaload, 1) := by decide +kernel
theorem dX12_effort_12 : decode cX12_effort 12 = .ok (.if_icmp .ne 5, 3) := by decide +kernel
theorem dX12_effort_15 : decode cX12_effort 15 = .ok (.iconst 1, 1) := by decide +kernel
theorem dX12_effort_16 : decode cX12_effort 16 = .ok (.ireturn, 1) := by decide +kernel
theorem dX12_effort_17 : decode cX12_effort 17 = .ok (.aload_n 0, 1) := by decide +kernel
theorem dX12_effort_18 : decode cX12_effort 18 = .ok (.getfield 81, 3) := by decide +kernel
theorem dX12_effort_21 : decode cX12_effort 21 = .ok (.iconst 1, 1) := by decide +kernel
theorem dX12_effort_22 : decode cX12_effort 22 = .ok (.iload_n 1, 1) := by decide +kernel
theorem dX12_effort_23 : decode cX12_effort 23 = .ok (.iastore, 1) := by decide +kernel
theorem dX12_effort_24 : decode cX12_effort 24 = .ok (.aload_n 0, 1) := by decide +kernel
theorem dX12_effort_25 : decode cX12_effort 25 = .ok (.getfield 81, 3) := by decide +kernel
theorem dX12_effort_28 : decode cX12_effort 28 = .ok (.iconst 2, 1) := by decide +kernel
theorem dX12_effort_29 : decode cX12_effort 29 = .ok (.iload_n 2, 1) := by decide +kernel
theorem dX12_effort_30 : decode cX12_effort 30 = .ok (.iastore, 1) := by decide +kernel
theorem dX12_effort_31 : decode cX12_effort 31 = .ok (.aload_n 0, 1) := by decide +kernel
theorem dX12_effort_32 : decode cX12_effort 32 = .ok (.getfield 81, 3) := by decide +kernel
theorem dX12_effort_35 : decode cX12_effort 35 = .ok (.iconst 3, 1) := by decide +kernel
theorem dX12_effort_36 : decode cX12_effort 36 = .ok (.iload_n 3, 1) := by decide +kernel
theorem dX12_effort_37 : decode cX12_effort 37 = .ok (.iastore, 1) := by decide +kernel
theorem dX12_effort_38 : decode cX12_effort 38 = .ok (.aload_n 0, 1) := by decide +kernel
theorem dX12_effort_39 : decode cX12_effort 39 = .ok (.getfield 81, 3) := by decide +kernel
theorem dX12_effort_42 : decode cX12_effort 42 = .ok (.iconst 4, 1) := by decide +kernel
theorem dX12_effort_43 : decode cX12_effort 43 = .ok (.iload 4, 2) := by decide +kernel
theorem dX12_effort_45 : decode cX12_effort 45 = .ok (.iastore, 1) := by decide +kernel
theorem dX12_effort_46 : decode cX12_effort 46 = .ok (.aload_n 0, 1) := by decide +kernel
theorem dX12_effort_47 : decode cX12_effort 47 = .ok (.iconst 0, 1) := by decide +kernel
theorem dX12_effort_48 : decode cX12_effort 48 = .ok (.invokevirtual 363, 3) := by decide +kernel
theorem dX12_effort_51 : decode cX12_effort 51 = .ok (.iconst 0, 1) := by decide +kernel
theorem dX12_effort_52 : decode cX12_effort 52 = .ok (.bipush 9, 2) := by decide +kernel
theorem dX12_effort_54 : decode cX12_effort 54 = .ok (.invokestatic 366, 3) := by decide +kernel
theorem dX12_effort_57 : decode cX12_effort 57 = .ok (.ireturn, 1) := by decide +kernel
theorem dX12_worksWeek_0 : decode cX12_worksWeek 0 = .ok (.aload_n 0, 1) := by decide +kernel
theorem dX12_worksWeek_1 : decode cX12_worksWeek 1 = .ok (.getfield 23, 3) := by decide +kernel
theorem dX12_worksWeek_4 : decode cX12_worksWeek 4 = .ok (.iload_n 1, 1) := by decide +kernel
theorem dX12_worksWeek_5 : decode cX12_worksWeek 5 = .ok (.iaload, 1) := by decide +kernel
theorem dX12_worksWeek_6 : decode cX12_worksWeek 6 = .ok (.iconst 3, 1) := by decide +kernel
theorem dX12_worksWeek_7 : decode cX12_worksWeek 7 = .ok (.if_icmp .ne 17, 3) := by decide +kernel
theorem dX12_worksWeek_10 : decode cX12_worksWeek 10 = .ok (.aload_n 0, 1) := by decide +kernel
theorem dX12_worksWeek_11 : decode cX12_worksWeek 11 = .ok (.getfield 108, 3) := by decide +kernel
theorem dX12_worksWeek_14 : decode cX12_worksWeek 14 = .ok (.iconst 0, 1) := by decide +kernel
theorem dX12_worksWeek_15 : decode cX12_worksWeek 15 = .ok (.iaload, 1) := by decide +kernel
theorem dX12_worksWeek_16 : decode cX12_worksWeek 16 = .ok (.iconst 2, 1) := by decide +kernel
theorem dX12_worksWeek_17 : decode cX12_worksWeek 17 = .ok (.irem, 1) := by decide +kernel
theorem dX12_worksWeek_18 : decode cX12_worksWeek 18 = .ok (.iconst 1, 1) := by decide +kernel
theorem dX12_worksWeek_19 : decode cX12_worksWeek 19 = .ok (.if_icmp .ne 5, 3) := by decide +kernel
theorem dX12_worksWeek_22 : decode cX12_worksWeek 22 = .ok (.iconst 0, 1) := by decide +kernel
theorem dX12_worksWeek_23 : decode cX12_worksWeek 23 = .ok (.ireturn, 1) := by decide +kernel
theorem dX12_worksWeek_24 : decode cX12_worksWeek 24 = .ok (.aload_n 0, 1) := by decide +kernel
theorem dX12_worksWeek_25 : decode cX12_worksWeek 25 = .ok (.aload_n 0, 1) := by decide +kernel
theorem dX12_worksWeek_26 : decode cX12_worksWeek 26 = .ok (.getfield 108, 3) := by decide +kernel
theorem dX12_worksWeek_29 : decode cX12_worksWeek 29 = .ok (.iconst 3, 1) := by decide +kernel
theorem dX12_worksWeek_30 : decode cX12_worksWeek 30 = .ok (.iload_n 1, 1) := by decide +kernel
theorem dX12_worksWeek_31 : decode cX12_worksWeek 31 = .ok (.iadd, 1) := by decide +kernel
theorem dX12_worksWeek_32 : decode cX12_worksWeek 32 = .ok (.iaload, 1) := by decide +kernel
theorem dX12_worksWeek_33 : decode cX12_worksWeek 33 = .ok (.aload_n 0, 1) := by decide +kernel
theorem dX12_worksWeek_34 : decode cX12_worksWeek 34 = .ok (.iload_n 1, 1) := by decide +kernel
theorem dX12_worksWeek_35 : decode cX12_worksWeek 35 = .ok (.invokevirtual 351, 3) := by decide +kernel
theorem dX12_worksWeek_38 : decode cX12_worksWeek 38 = .ok (.aload_n 0, 1) := by decide +kernel
theorem dX12_worksWeek_39 : decode cX12_worksWeek 39 = .ok (.iload_n 1, 1) := by decide +kernel
theorem dX12_worksWeek_40 : decode cX12_worksWeek 40 = .ok (.invokevirtual 370, 3) := by decide +kernel
theorem dX12_worksWeek_43 : decode cX12_worksWeek 43 = .ok (.aload_n 0, 1) := by decide +kernel
theorem dX12_worksWeek_44 : decode cX12_worksWeek 44 = .ok (.getfield 108, 3) := by decide +kernel
theorem dX12_worksWeek_47 : decode cX12_worksWeek 47 = .ok (.iconst 0, 1) := by decide +kernel
theorem dX12_worksWeek_48 : decode cX12_worksWeek 48 = .ok (.iaload, 1) := by decide +kernel
theorem dX12_worksWeek_49 : decode cX12_worksWeek 49 = .ok (.invokevirtual 373, 3) := by decide +kernel
theorem dX12_worksWeek_52 : decode cX12_worksWeek 52 = .ok (.istore_n 2, 1) := by decide +kernel
theorem dX12_worksWeek_53 : decode cX12_worksWeek 53 = .ok (.aload_n 0, 1) := by decide +kernel
theorem dX12_worksWeek_54 : decode cX12_worksWeek 54 = .ok (.getfield 23, 3) := by decide +kernel
theorem dX12_worksWeek_57 : decode cX12_worksWeek 57 = .ok (.iload_n 1, 1) := by decide +kernel
theorem dX12_worksWeek_58 : decode cX12_worksWeek 58 = .ok (.iaload, 1) := by decide +kernel
theorem dX12_worksWeek_59 : decode cX12_worksWeek 59 = .ok (.iconst 2, 1) := by decide +kernel
theorem dX12_worksWeek_60 : decode cX12_worksWeek 60 = .ok (.if_icmp .ne 26, 3) := by decide +kernel
theorem dX12_worksWeek_63 : decode cX12_worksWeek 63 = .ok (.iload_n 2, 1) := by decide +kernel
theorem dX12_worksWeek_64 : decode cX12_worksWeek 64 = .ok (.aload_n 0, 1) := by decide +kernel
theorem dX12_worksWeek_65 : decode cX12_worksWeek 65 = .ok (.iload_n 1, 1) := by decide +kernel
theorem dX12_worksWeek_66 : decode cX12_worksWeek 66 = .ok (.invokevirtual 351, 3) := by decide +kernel
theorem dX12_worksWeek_69 : decode cX12_worksWeek 69 = .ok (.aload_n 0, 1) := by decide +kernel
theorem dX12_worksWeek_70 : decode cX12_worksWeek 70 = .ok (.getfield 108, 3) := by decide +kernel
theorem dX12_worksWeek_73 : decode cX12_worksWeek 73 = .ok (.iconst 3, 1) := by decide +kernel
theorem dX12_worksWeek_74 : decode cX12_worksWeek 74 = .ok (.iload_n 1, 1) := by decide +kernel
theorem dX12_worksWeek_75 : decode cX12_worksWeek 75 = .ok (.iadd, 1) := by decide +kernel
theorem dX12_worksWeek_76 : decode cX12_worksWeek 76 = .ok (.iaload, 1) := by decide +kernel
theorem dX12_worksWeek_77 : decode cX12_worksWeek 77 = .ok (.isub, 1) := by decide +kernel
theorem dX12_worksWeek_78 : decode cX12_worksWeek 78 = .ok (.iconst 1, 1) := by decide +kernel
theorem dX12_worksWeek_79 : decode cX12_worksWeek 79 = .ok (.iadd, 1) := by decide +kernel
theorem dX12_worksWeek_80 : decode cX12_worksWeek 80 = .ok (.iconst 2, 1) := by decide +kernel
theorem dX12_worksWeek_81 : decode cX12_worksWeek 81 = .ok (.idiv, 1) := by decide +kernel
theorem dX12_worksWeek_82 : decode cX12_worksWeek 82 = .ok (.invokestatic 284, 3) := by decide +kernel
theorem dX12_worksWeek_85 : decode cX12_worksWeek 85 = .ok (.istore_n 2, 1) := by decide +kernel
theorem dX12_worksWeek_86 : decode cX12_worksWeek 86 = .ok (.aload_n 0, 1) := by decide +kernel
theorem dX12_worksWeek_87 : decode cX12_worksWeek 87 = .ok (.iload_n 1, 1) := by decide +kernel
theorem dX12_worksWeek_88 : decode cX12_worksWeek 88 = .ok (.iload_n 2, 1) := by decide +kernel
theorem dX12_worksWeek_89 : decode cX12_worksWeek 89 = .ok (.invokevirtual 377, 3) := by decide +kernel
theorem dX12_worksWeek_92 : decode cX12_worksWeek 92 = .ok (.istore_n 3, 1) := by decide +kernel
theorem dX12_worksWeek_93 : decode cX12_worksWeek 93 = .ok (.aload_n 0, 1) := by decide +kernel
theorem dX12_worksWeek_94 : decode cX12_worksWeek 94 = .ok (.getfield 23, 3) := by decide +kernel
theorem dX12_worksWeek_97 : decode cX12_worksWeek 97 = .ok (.iload_n 1, 1) := by decide +kernel
theorem dX12_worksWeek_98 : decode cX12_worksWeek 98 = .ok (.iaload, 1) := by decide +kernel
theorem dX12_worksWeek_99 : decode cX12_worksWeek 99 = .ok (.iconst 1, 1) := by decide +kernel
theorem dX12_worksWeek_100 : decode cX12_worksWeek 100 = .ok (.if_icmp .ne 14, 3) := by decide +kernel
theorem dX12_worksWeek_103 : decode cX12_worksWeek 103 = .ok (.iload_n 3, 1) := by decide +kernel
theorem dX12_worksWeek_104 : decode cX12_worksWeek 104 = .ok (.aload_n 0, 1) := by decide +kernel
theorem dX12_worksWeek_105 : decode cX12_worksWeek 105 = .ok (.iload_n 1, 1) := by decide +kernel
theorem dX12_worksWeek_106 : decode cX12_worksWeek 106 = .ok (.iload_n 2, 1) := by decide +kernel
theorem dX12_worksWeek_107 : decode cX12_worksWeek 107 = .ok (.invokevirtual 377, 3) := by decide +kernel
theorem dX12_worksWeek_110 : decode cX12_worksWeek 110 = .ok (.iadd, 1) := by decide +kernel
theorem dX12_worksWeek_111 : decode cX12_worksWeek 111 = .ok (.goto 4, 3) := by decide +kernel
theorem dX12_worksWeek_114 : decode cX12_worksWeek 114 = .ok (.iload_n 3, 1) := by decide +kernel
theorem dX12_worksWeek_115 : decode cX12_worksWeek 115 = .ok (.ireturn, 1) := by decide +kernel
theorem dX12_passes_0 : decode cX12_passes 0 = .ok (.iconst 0, 1) := by decide +kernel
theorem dX12_passes_1 : decode cX12_passes 1 = .ok (.istore_n 1, 1) := by decide +kernel
theorem dX12_passes_2 : decode cX12_passes 2 = .ok (.aload_n 0, 1) := by decide +kernel
theorem dX12_passes_3 : decode cX12_passes 3 = .ok (.iconst 0, 1) := by decide +kernel
theorem dX12_passes_4 : decode cX12_passes 4 = .ok (.putfield 380, 3) := by decide +kernel
theorem dX12_passes_7 : decode cX12_passes 7 = .ok (.iconst 0, 1) := by decide +kernel
theorem dX12_passes_8 : decode cX12_passes 8 = .ok (.istore_n 2, 1) := by decide +kernel
theorem dX12_passes_9 : decode cX12_passes 9 = .ok (.iload_n 2, 1) := by decide +kernel
theorem dX12_passes_10 : decode cX12_passes 10 = .ok (.aload_n 0, 1) := by decide +kernel
theorem dX12_passes_11 : decode cX12_passes 11 = .ok (.getfield 13, 3) := by decide +kernel
theorem dX12_passes_14 : decode cX12_passes 14 = .ok (.iconst 0, 1) := by decide +kernel
theorem dX12_passes_15 : decode cX12_passes 15 = .ok (.iaload, 1) := by decide +kernel
theorem dX12_passes_16 : decode cX12_passes 16 = .ok (.if_icmp .ge 39, 3) := by decide +kernel
theorem dX12_passes_19 : decode cX12_passes 19 = .ok (.aload_n 0, 1) := by decide +kernel
theorem dX12_passes_20 : decode cX12_passes 20 = .ok (.iload_n 2, 1) := by decide +kernel
theorem dX12_passes_21 : decode cX12_passes 21 = .ok (.invokevirtual 383, 3) := by decide +kernel
theorem dX12_passes_24 : decode cX12_passes 24 = .ok (.istore_n 3, 1) := by decide +kernel
theorem dX12_passes_25 : decode cX12_passes 25 = .ok (.iload_n 1, 1) := by decide +kernel
theorem dX12_passes_26 : decode cX12_passes 26 = .ok (.iload_n 3, 1) := by decide +kernel
theorem dX12_passes_27 : decode cX12_passes 27 = .ok (.iadd, 1) := by decide +kernel
theorem dX12_passes_28 : decode cX12_passes 28 = .ok (.istore_n 1, 1) := by decide +kernel
theorem dX12_passes_29 : decode cX12_passes 29 = .ok (.aload_n 0, 1) := by decide +kernel
theorem dX12_passes_30 : decode cX12_passes 30 = .ok (.dup, 1) := by decide +kernel
theorem dX12_passes_31 : decode cX12_passes 31 = .ok (.getfield 380, 3) := by decide +kernel
theorem dX12_passes_34 : decode cX12_passes 34 = .ok (.iload_n 3, 1) := by decide +kernel
theorem dX12_passes_35 : decode cX12_passes 35 = .ok (.ifCond .le 9, 3) := by decide +kernel
theorem dX12_passes_38 : decode cX12_passes 38 = .ok (.iconst 1, 1) := by decide +kernel
theorem dX12_passes_39 : decode cX12_passes 39 = .ok (.iload_n 2, 1) := by decide +kernel
theorem dX12_passes_40 : decode cX12_passes 40 = .ok (.ishl, 1) := by decide +kernel
theorem dX12_passes_41 : decode cX12_passes 41 = .ok (.goto 4, 3) := by decide +kernel
theorem dX12_passes_44 : decode cX12_passes 44 = .ok (.iconst 0, 1) := by decide +kernel
theorem dX12_passes_45 : decode cX12_passes 45 = .ok (.ior, 1) := by decide +kernel
theorem dX12_passes_46 : decode cX12_passes 46 = .ok (.putfield 380, 3) := by decide +kernel
theorem dX12_passes_49 : decode cX12_passes 49 = .ok (.iinc 2 1, 3) := by decide +kernel
theorem dX12_passes_52 : decode cX12_passes 52 = .ok (.goto (-43), 3) := by decide +kernel
theorem dX12_passes_55 : decode cX12_passes 55 = .ok (.aload_n 0, 1) := by decide +kernel
theorem dX12_passes_56 : decode cX12_passes 56 = .ok (.getfield 108, 3) := by decide +kernel
theorem dX12_passes_59 : decode cX12_passes 59 = .ok (.iconst 0, 1) := by decide +kernel
theorem dX12_passes_60 : decode cX12_passes 60 = .ok (.dup2, 1) := by decide +kernel
theorem dX12_passes_61 : decode cX12_passes 61 = .ok (.iaload, 1) := by decide +kernel
theorem dX12_passes_62 : decode cX12_passes 62 = .ok (.iconst 1, 1) := by decide +kernel
theorem dX12_passes_63 : decode cX12_passes 63 = .ok (.iadd, 1) := by decide +kernel
theorem dX12_passes_64 : decode cX12_passes 64 = .ok (.iastore, 1) := by decide +kernel
theorem dX12_passes_65 : decode cX12_passes 65 = .ok (.iload_n 1, 1) := by decide +kernel
theorem dX12_passes_66 : decode cX12_passes 66 = .ok (.ireturn, 1) := by decide +kernel
theorem dX12_canJoin_0 : decode cX12_canJoin 0 = .ok (.iload_n 1, 1) := by decide +kernel
theorem dX12_canJoin_1 : decode cX12_canJoin 1 = .ok (.iload_n 2, 1) := by decide +kernel
theorem dX12_canJoin_2 : decode cX12_canJoin 2 = .ok (.if_icmp .eq 38, 3) := by decide +kernel
theorem dX12_canJoin_5 : decode cX12_canJoin 5 = .ok (.aload_n 0, 1) := by decide +kernel
theorem dX12_canJoin_6 : decode cX12_canJoin 6 = .ok (.getfield 26, 3) := by decide +kernel
theorem dX12_canJoin_9 : decode cX12_canJoin 9 = .ok (.iload_n 1, 1) := by decide +kernel
theorem dX12_canJoin_10 : decode cX12_canJoin 10 = .ok (.iaload, 1) := by decide +kernel
theorem dX12_canJoin_11 : decode cX12_canJoin 11 = .ok (.aload_n 0, 1) := by decide +kernel
theorem dX12_canJoin_12 : decode cX12_canJoin 12 = .ok (.getfield 26, 3) := by decide +kernel
theorem dX12_canJoin_15 : decode cX12_canJoin 15 = .ok (.iload_n 2, 1) := by decide +kernel
theorem dX12_canJoin_16 : decode cX12_canJoin 16 = .ok (.iaload, 1) := by decide +kernel
theorem dX12_canJoin_17 : decode cX12_canJoin 17 = .ok (.if_icmp .ne 23, 3) := by decide +kernel
theorem dX12_canJoin_20 : decode cX12_canJoin 20 = .ok (.aload_n 0, 1) := by decide +kernel
theorem dX12_canJoin_21 : decode cX12_canJoin 21 = .ok (.iload_n 1, 1) := by decide +kernel
theorem dX12_canJoin_22 : decode cX12_canJoin 22 = .ok (.invokevirtual 386, 3) := by decide +kernel
theorem dX12_canJoin_25 : decode cX12_canJoin 25 = .ok (.ifCond .eq 15, 3) := by decide +kernel
theorem dX12_canJoin_28 : decode cX12_canJoin 28 = .ok (.aload_n 0, 1) := by decide +kernel
theorem dX12_canJoin_29 : decode cX12_canJoin 29 = .ok (.iload_n 2, 1) := by decide +kernel
theorem dX12_canJoin_30 : decode cX12_canJoin 30 = .ok (.invokevirtual 386, 3) := by decide +kernel
theorem dX12_canJoin_33 : decode cX12_canJoin 33 = .ok (.ifCond .eq 7, 3) := by decide +kernel
theorem dX12_canJoin_36 : decode cX12_canJoin 36 = .ok (.iconst 1, 1) := by decide +kernel
theorem dX12_canJoin_37 : decode cX12_canJoin 37 = .ok (.goto 4, 3) := by decide +kernel
theorem dX12_canJoin_40 : decode cX12_canJoin 40 = .ok (.iconst 0, 1) := by decide +kernel
theorem dX12_canJoin_41 : decode cX12_canJoin 41 = .ok (.ireturn, 1) := by decide +kernel
theorem dX12_joins_0 : decode cX12_joins 0 = .ok (.aload_n 0, 1) := by decide +kernel
theorem dX12_joins_1 : decode cX12_joins 1 = .ok (.getfield 108, 3) := by decide +kernel
theorem dX12_joins_4 : decode cX12_joins 4 = .ok (.iconst 3, 1) := by decide +kernel
theorem dX12_joins_5 : decode cX12_joins 5 = .ok (.iload_n 1, 1) := by decide +kernel
theorem dX12_joins_6 : decode cX12_joins 6 = .ok (.iadd, 1) := by decide +kernel
theorem dX12_joins_7 : decode cX12_joins 7 = .ok (.iconst 0, 1) := by decide +kernel
theorem dX12_joins_8 : decode cX12_joins 8 = .ok (.iastore, 1) := by decide +kernel
theorem dX12_joins_9 : decode cX12_joins 9 = .ok (.aload_n 0, 1) := by decide +kernel
theorem dX12_joins_10 : decode cX12_joins 10 = .ok (.getfield 108, 3) := by decide +kernel
theorem dX12_joins_13 : decode cX12_joins 13 = .ok (.iconst 3, 1) := by decide +kernel
theorem dX12_joins_14 : decode cX12_joins 14 = .ok (.iload_n 2, 1) := by decide +kernel
theorem dX12_joins_15 : decode cX12_joins 15 = .ok (.iadd, 1) := by decide +kernel
theorem dX12_joins_16 : decode cX12_joins 16 = .ok (.iconst 0, 1) := by decide +kernel
theorem dX12_joins_17 : decode cX12_joins 17 = .ok (.iastore, 1) := by decide +kernel
theorem dX12_joins_18 : decode cX12_joins 18 = .ok (.aload_n 0, 1) := by decide +kernel
theorem dX12_joins_19 : decode cX12_joins 19 = .ok (.getfield 108, 3) := by decide +kernel
theorem dX12_joins_22 : decode cX12_joins 22 = .ok (.iconst 1, 1) := by decide +kernel
theorem dX12_joins_23 : decode cX12_joins 23 = .ok (.dup2, 1) := by decide +kernel
theorem dX12_joins_24 : decode cX12_joins 24 = .ok (.iaload, 1) := by decide +kernel
theorem dX12_joins_25 : decode cX12_joins 25 = .ok (.bipush 10, 2) := by decide +kernel
theorem dX12_joins_27 : decode cX12_joins 27 = .ok (.aload_n 0, 1) := by decide +kernel
theorem dX12_joins_28 : decode cX12_joins 28 = .ok (.getfield 13, 3) := by decide +kernel
theorem dX12_joins_31 : decode cX12_joins 31 = .ok (.iconst 2, 1) := by decide +kernel
theorem dX12_joins_32 : decode cX12_joins 32 = .ok (.iaload, 1) := by decide +kernel
theorem dX12_joins_33 : decode cX12_joins 33 = .ok (.imul, 1) := by decide +kernel
theorem dX12_joins_34 : decode cX12_joins 34 = .ok (.iadd, 1) := by decide +kernel
theorem dX12_joins_35 : decode cX12_joins 35 = .ok (.iastore, 1) := by decide +kernel
theorem dX12_joins_36 : decode cX12_joins 36 = .ok (.aload_n 0, 1) := by decide +kernel
theorem dX12_joins_37 : decode cX12_joins 37 = .ok (.getfield 108, 3) := by decide +kernel
theorem dX12_joins_40 : decode cX12_joins 40 = .ok (.iconst 2, 1) := by decide +kernel
theorem dX12_joins_41 : decode cX12_joins 41 = .ok (.dup2, 1) := by decide +kernel
theorem dX12_joins_42 : decode cX12_joins 42 = .ok (.iaload, 1) := by decide +kernel
theorem dX12_joins_43 : decode cX12_joins 43 = .ok (.iconst 1, 1) := by decide +kernel
theorem dX12_joins_44 : decode cX12_joins 44 = .ok (.iadd, 1) := by decide +kernel
theorem dX12_joins_45 : decode cX12_joins 45 = .ok (.iastore, 1) := by decide +kernel
theorem dX12_joins_46 : decode cX12_joins 46 = .ok (.return_, 1) := by decide +kernel
theorem dX12_canLend_0 : decode cX12_canLend 0 = .ok (.iload_n 1, 1) := by decide +kernel
theorem dX12_canLend_1 : decode cX12_canLend 1 = .ok (.iload_n 2, 1) := by decide +kernel
theorem dX12_canLend_2 : decode cX12_canLend 2 = .ok (.if_icmp .eq 36, 3) := by decide +kernel
theorem dX12_canLend_5 : decode cX12_canLend 5 = .ok (.aload_n 0, 1) := by decide +kernel
theorem dX12_canLend_6 : decode cX12_canLend 6 = .ok (.getfield 108, 3) := by decide +kernel
theorem dX12_canLend_9 : decode cX12_canLend 9 = .ok (.bipush 9, 2) := by decide +kernel
theorem dX12_canLend_11 : decode cX12_canLend 11 = .ok (.iload_n 1, 1) := by decide +kernel
theorem dX12_canLend_12 : decode cX12_canLend 12 = .ok (.iadd, 1) := by decide +kernel
theorem dX12_canLend_13 : decode cX12_canLend 13 = .ok (.iaload, 1) := by decide +kernel
theorem dX12_canLend_14 : decode cX12_canLend 14 = .ok (.iload_n 3, 1) := by decide +kernel
theorem dX12_canLend_15 : decode cX12_canLend 15 = .ok (.if_icmp .lt 23, 3) := by decide +kernel
theorem dX12_canLend_18 : decode cX12_canLend 18 = .ok (.aload_n 0, 1) := by decide +kernel
theorem dX12_canLend_19 : decode cX12_canLend 19 = .ok (.getfield 108, 3) := by decide +kernel
theorem dX12_canLend_22 : decode cX12_canLend 22 = .ok (.bipush 9, 2) := by decide +kernel
theorem dX12_canLend_24 : decode cX12_canLend 24 = .ok (.iload_n 2, 1) := by decide +kernel
theorem dX12_canLend_25 : decode cX12_canLend 25 = .ok (.iadd, 1) := by decide +kernel
theorem dX12_canLend_26 : decode cX12_canLend 26 = .ok (.iaload, 1) := by decide +kernel
theorem dX12_canLend_27 : decode cX12_canLend 27 = .ok (.iload_n 3, 1) := by decide +kernel
theorem dX12_canLend_28 : decode cX12_canLend 28 = .ok (.iadd, 1) := by decide +kernel
theorem dX12_canLend_29 : decode cX12_canLend 29 = .ok (.bipush 99, 2) := by decide +kernel
theorem dX12_canLend_31 : decode cX12_canLend 31 = .ok (.if_icmp .gt 7, 3) := by decide +kernel
theorem dX12_canLend_34 : decode cX12_canLend 34 = .ok (.iconst 1, 1) := by decide +kernel
theorem dX12_canLend_35 : decode cX12_canLend 35 = .ok (.goto 4, 3) := by decide +kernel
theorem dX12_canLend_38 : decode cX12_canLend 38 = .ok (.iconst 0, 1) := by decide +kernel
theorem dX12_canLend_39 : decode cX12_canLend 39 = .ok (.ireturn, 1) := by decide +kernel
theorem dX12_lends_0 : decode cX12_lends 0 = .ok (.aload_n 0, 1) := by decide +kernel
theorem dX12_lends_1 : decode cX12_lends 1 = .ok (.getfield 108, 3) := by decide +kernel
theorem dX12_lends_4 : decode cX12_lends 4 = .ok (.bipush 9, 2) := by decide +kernel
theorem dX12_lends_6 : decode cX12_lends 6 = .ok (.iload_n 1, 1) := by decide +kernel
theorem dX12_lends_7 : decode cX12_lends 7 = .ok (.iadd, 1) := by decide +kernel
theorem dX12_lends_8 : decode cX12_lends 8 = .ok (.dup2, 1) := by decide +kernel
theorem dX12_lends_9 : decode cX12_lends 9 = .ok (.iaload, 1) := by decide +kernel
theorem dX12_lends_10 : decode cX12_lends 10 = .ok (.iload_n 3, 1) := by decide +kernel
theorem dX12_lends_11 : decode cX12_lends 11 = .ok (.isub, 1) := by decide +kernel
theorem dX12_lends_12 : decode cX12_lends 12 = .ok (.iastore, 1) := by decide +kernel
theorem dX12_lends_13 : decode cX12_lends 13 = .ok (.aload_n 0, 1) := by decide +kernel
theorem dX12_lends_14 : decode cX12_lends 14 = .ok (.getfield 108, 3) := by decide +kernel
theorem dX12_lends_17 : decode cX12_lends 17 = .ok (.bipush 9, 2) := by decide +kernel
theorem dX12_lends_19 : decode cX12_lends 19 = .ok (.iload_n 2, 1) := by decide +kernel
theorem dX12_lends_20 : decode cX12_lends 20 = .ok (.iadd, 1) := by decide +kernel
theorem dX12_lends_21 : decode cX12_lends 21 = .ok (.dup2, 1) := by decide +kernel
theorem dX12_lends_22 : decode cX12_lends 22 = .ok (.iaload, 1) := by decide +kernel
theorem dX12_lends_23 : decode cX12_lends 23 = .ok (.iload_n 3, 1) := by decide +kernel
theorem dX12_lends_24 : decode cX12_lends 24 = .ok (.iadd, 1) := by decide +kernel
theorem dX12_lends_25 : decode cX12_lends 25 = .ok (.iastore, 1) := by decide +kernel
theorem dX12_lends_26 : decode cX12_lends 26 = .ok (.return_, 1) := by decide +kernel
theorem dX12_carriedOf_0 : decode cX12_carriedOf 0 = .ok (.iconst 2, 1) := by decide +kernel
theorem dX12_carriedOf_1 : decode cX12_carriedOf 1 = .ok (.aload_n 0, 1) := by decide +kernel
theorem dX12_carriedOf_2 : decode cX12_carriedOf 2 = .ok (.iload_n 1, 1) := by decide +kernel
theorem dX12_carriedOf_3 : decode cX12_carriedOf 3 = .ok (.invokevirtual 370, 3) := by decide +kernel
theorem dX12_carriedOf_6 : decode cX12_carriedOf 6 = .ok (.imul, 1) := by decide +kernel
theorem dX12_carriedOf_7 : decode cX12_carriedOf 7 = .ok (.istore_n 2, 1) := by decide +kernel
theorem dX12_carriedOf_8 : decode cX12_carriedOf 8 = .ok (.aload_n 0, 1) := by decide +kernel
theorem dX12_carriedOf_9 : decode cX12_carriedOf 9 = .ok (.invokevirtual 389, 3) := by decide +kernel
theorem dX12_carriedOf_12 : decode cX12_carriedOf 12 = .ok (.istore_n 3, 1) := by decide +kernel
theorem dX12_carriedOf_13 : decode cX12_carriedOf 13 = .ok (.iload_n 2, 1) := by decide +kernel
theorem dX12_carriedOf_14 : decode cX12_carriedOf 14 = .ok (.iload_n 3, 1) := by decide +kernel
theorem dX12_carriedOf_15 : decode cX12_carriedOf 15 = .ok (.if_icmp .le 7, 3) := by decide +kernel
theorem dX12_carriedOf_18 : decode cX12_carriedOf 18 = .ok (.iconst 2, 1) := by decide +kernel
theorem dX12_carriedOf_19 : decode cX12_carriedOf 19 = .ok (.goto 17, 3) := by decide +kernel
theorem dX12_carriedOf_22 : decode cX12_carriedOf 22 = .ok (.iload_n 2, 1) := by decide +kernel
theorem dX12_carriedOf_23 : decode cX12_carriedOf 23 = .ok (.iload_n 3, 1) := by decide +kernel
theorem dX12_carriedOf_24 : decode cX12_carriedOf 24 = .ok (.if_icmp .ne 11, 3) := by decide +kernel
theorem dX12_carriedOf_27 : decode cX12_carriedOf 27 = .ok (.iload_n 3, 1) := by decide +kernel
theorem dX12_carriedOf_28 : decode cX12_carriedOf 28 = .ok (.ifCond .le 7, 3) := by decide +kernel
theorem dX12_carriedOf_31 : decode cX12_carriedOf 31 = .ok (.iconst 1, 1) := by decide +kernel
theorem dX12_carriedOf_32 : decode cX12_carriedOf 32 = .ok (.goto 4, 3) := by decide +kernel
theorem dX12_carriedOf_35 : decode cX12_carriedOf 35 = .ok (.iconst 0, 1) := by decide +kernel
theorem dX12_carriedOf_36 : decode cX12_carriedOf 36 = .ok (.ireturn, 1) := by decide +kernel
theorem dX12_ware_0 : decode cX12_ware 0 = .ok (.aload_n 0, 1) := by decide +kernel
theorem dX12_ware_1 : decode cX12_ware 1 = .ok (.iconst 0, 1) := by decide +kernel
theorem dX12_ware_2 : decode cX12_ware 2 = .ok (.putfield 133, 3) := by decide +kernel
theorem dX12_ware_5 : decode cX12_ware 5 = .ok (.aload_n 0, 1) := by decide +kernel
theorem dX12_ware_6 : decode cX12_ware 6 = .ok (.iload_n 1, 1) := by decide +kernel
theorem dX12_ware_7 : decode cX12_ware 7 = .ok (.invokevirtual 392, 3) := by decide +kernel
theorem dX12_ware_10 : decode cX12_ware 10 = .ok (.ifCond .eq 12, 3) := by decide +kernel
theorem dX12_ware_13 : decode cX12_ware 13 = .ok (.iload_n 2, 1) := by decide +kernel
theorem dX12_ware_14 : decode cX12_ware 14 = .ok (.iconst 0, 1) := by decide +kernel
theorem dX12_ware_15 : decode cX12_ware 15 = .ok (.iconst 5, 1) := by decide +kernel
theorem dX12_ware_16 : decode cX12_ware 16 = .ok (.invokestatic 253, 3) := by decide +kernel
theorem dX12_ware_19 : decode cX12_ware 19 = .ok (.ifCond .ne 5, 3) := by decide +kernel
theorem dX12_ware_22 : decode cX12_ware 22 = .ok (.iconst (-1), 1) := by decide +kernel
theorem dX12_ware_23 : decode cX12_ware 23 = .ok (.ireturn, 1) := by decide +kernel
theorem dX12_ware_24 : decode cX12_ware 24 = .ok (.iload_n 2, 1) := by decide +kernel
theorem dX12_ware_25 : decode cX12_ware 25 = .ok (.iconst 3, 1) := by decide +kernel
theorem dX12_ware_26 : decode cX12_ware 26 = .ok (.if_icmp .ge 39, 3) := by decide +kernel
theorem dX12_ware_29 : decode cX12_ware 29 = .ok (.iload_n 2, 1) := by decide +kernel
theorem dX12_ware_30 : decode cX12_ware 30 = .ok (.ifCond .ne 12, 3) := by decide +kernel
theorem dX12_ware_33 : decode cX12_ware 33 = .ok (.aload_n 0, 1) := by decide +kernel
theorem dX12_ware_34 : decode cX12_ware 34 = .ok (.getfield 23, 3) := by decide +kernel
theorem dX12_ware_37 : decode cX12_ware 37 = .ok (.iload_n 1, 1) := by decide +kernel
theorem dX12_ware_38 : decode cX12_ware 38 = .ok (.iaload, 1) := by decide +kernel
theorem dX12_ware_39 : decode cX12_ware 39 = .ok (.goto 25, 3) := by decide +kernel
theorem dX12_ware_42 : decode cX12_ware 42 = .ok (.iload_n 2, 1) := by decide +kernel
theorem dX12_ware_43 : decode cX12_ware 43 = .ok (.iconst 1, 1) := by decide +kernel
theorem dX12_ware_44 : decode cX12_ware 44 = .ok (.if_icmp .ne 12, 3) := by decide +kernel
theorem dX12_ware_47 : decode cX12_ware 47 = .ok (.aload_n 0, 1) := by decide +kernel
theorem dX12_ware_48 : decode cX12_ware 48 = .ok (.getfield 26, 3) := by decide +kernel
theorem dX12_ware_51 : decode cX12_ware 51 = .ok (.iload_n 1, 1) := by decide +kernel
theorem dX12_ware_52 : decode cX12_ware 52 = .ok (.iaload, 1) := by decide +kernel
theorem dX12_ware_53 : decode cX12_ware 53 = .ok (.goto 11, 3) := by decide +kernel
theorem dX12_ware_56 : decode cX12_ware 56 = .ok (.aload_n 0, 1) := by decide +kernel
theorem dX12_ware_57 : decode cX12_ware 57 = .ok (.getfield 108, 3) := by decide +kernel
theorem dX12_ware_60 : decode cX12_ware 60 = .ok (.iconst 3, 1) := by decide +kernel
theorem dX12_ware_61 : decode cX12_ware 61 = .ok (.iload_n 1, 1) := by decide +kernel
theorem dX12_ware_62 : decode cX12_ware 62 = .ok (.iadd, 1) := by decide +kernel
theorem dX12_ware_63 : decode cX12_ware 63 = .ok (.iaload, 1) := by decide +kernel
theorem dX12_ware_64 : decode cX12_ware 64 = .ok (.ireturn, 1) := by decide +kernel
theorem dX12_ware_65 : decode cX12_ware 65 = .ok (.iload_n 2, 1) := by decide +kernel
theorem dX12_ware_66 : decode cX12_ware 66 = .ok (.iconst 3, 1) := by decide +kernel
theorem dX12_ware_67 : decode cX12_ware 67 = .ok (.if_icmp .ne 11, 3) := by decide +kernel
theorem dX12_ware_70 : decode cX12_ware 70 = .ok (.aload_n 0, 1) := by decide +kernel
theorem dX12_ware_71 : decode cX12_ware 71 = .ok (.iload_n 1, 1) := by decide +kernel
theorem dX12_ware_72 : decode cX12_ware 72 = .ok (.invokevirtual 351, 3) := by decide +kernel
theorem dX12_ware_75 : decode cX12_ware 75 = .ok (.goto 21, 3) := by decide +kernel
theorem dX12_ware_78 : decode cX12_ware 78 = .ok (.iload_n 2, 1) := by decide +kernel
theorem dX12_ware_79 : decode cX12_ware 79 = .ok (.iconst 4, 1) := by decide +kernel
theorem dX12_ware_80 : decode cX12_ware 80 = .ok (.if_icmp .ne 11, 3) := by decide +kernel
theorem dX12_ware_83 : decode cX12_ware 83 = .ok (.aload_n 0, 1) := by decide +kernel
theorem dX12_ware_84 : decode cX12_ware 84 = .ok (.iload_n 1, 1) := by decide +kernel
theorem dX12_ware_85 : decode cX12_ware 85 = .ok (.invokevirtual 370, 3) := by decide +kernel
theorem dX12_ware_88 : decode cX12_ware 88 = .ok (.goto 8, 3) := by decide +kernel
theorem dX12_ware_91 : decode cX12_ware 91 = .ok (.aload_n 0, 1) := by decide +kernel
theorem dX12_ware_92 : decode cX12_ware 92 = .ok (.iload_n 1, 1) := by decide +kernel
theorem dX12_ware_93 : decode cX12_ware 93 = .ok (.invokevirtual 395, 3) := by decide +kernel
theorem dX12_ware_96 : decode cX12_ware 96 = .ok (.ireturn, 1) := by decide +kernel
theorem dX12_party_0 : decode cX12_party 0 = .ok (.aload_n 0, 1) := by decide +kernel
theorem dX12_party_1 : decode cX12_party 1 = .ok (.iconst 0, 1) := by decide +kernel
theorem dX12_party_2 : decode cX12_party 2 = .ok (.putfield 133, 3) := by decide +kernel
theorem dX12_party_5 : decode cX12_party 5 = .ok (.aload_n 0, 1) := by decide +kernel
theorem dX12_party_6 : decode cX12_party 6 = .ok (.iload_n 1, 1) := by decide +kernel
theorem dX12_party_7 : decode cX12_party 7 = .ok (.invokevirtual 398, 3) := by decide +kernel
theorem dX12_party_10 : decode cX12_party 10 = .ok (.ifCond .eq 12, 3) := by decide +kernel
theorem dX12_party_13 : decode cX12_party 13 = .ok (.iload_n 2, 1) := by decide +kernel
theorem dX12_party_14 : decode cX12_party 14 = .ok (.iconst 0, 1) := by decide +kernel
theorem dX12_party_15 : decode cX12_party 15 = .ok (.iconst 1, 1) := by decide +kernel
theorem dX12_party_16 : decode cX12_party 16 = .ok (.invokestatic 253, 3) := by decide +kernel
theorem dX12_party_19 : decode cX12_party 19 = .ok (.ifCond .ne 5, 3) := by decide +kernel
theorem dX12_party_22 : decode cX12_party 22 = .ok (.iconst (-1), 1) := by decide +kernel
theorem dX12_party_23 : decode cX12_party 23 = .ok (.ireturn, 1) := by decide +kernel
theorem dX12_party_24 : decode cX12_party 24 = .ok (.iload_n 2, 1) := by decide +kernel
theorem dX12_party_25 : decode cX12_party 25 = .ok (.ifCond .ne 15, 3) := by decide +kernel
theorem dX12_party_28 : decode cX12_party 28 = .ok (.aload_n 0, 1) := by decide +kernel
theorem dX12_party_29 : decode cX12_party 29 = .ok (.getfield 108, 3) := by decide +kernel
theorem dX12_party_32 : decode cX12_party 32 = .ok (.bipush 9, 2) := by decide +kernel
theorem dX12_party_34 : decode cX12_party 34 = .ok (.iload_n 1, 1) := by decide +kernel
theorem dX12_party_35 : decode cX12_party 35 = .ok (.iadd, 1) := by decide +kernel
theorem dX12_party_36 : decode cX12_party 36 = .ok (.iaload, 1) := by decide +kernel
theorem dX12_party_37 : decode cX12_party 37 = .ok (.goto 9, 3) := by decide +kernel
theorem dX12_party_40 : decode cX12_party 40 = .ok (.aload_n 0, 1) := by decide +kernel
theorem dX12_party_41 : decode cX12_party 41 = .ok (.getfield 35, 3) := by decide +kernel
theorem dX12_party_44 : decode cX12_party 44 = .ok (.iload_n 1, 1) := by decide +kernel
theorem dX12_party_45 : decode cX12_party 45 = .ok (.iaload, 1) := by decide +kernel
theorem dX12_party_46 : decode cX12_party 46 = .ok (.ireturn, 1) := by decide +kernel
theorem dX12_keeps_0 : decode cX12_keeps 0 = .ok (.aload_n 0, 1) := by decide +kernel
theorem dX12_keeps_1 : decode cX12_keeps 1 = .ok (.getfield 341, 3) := by decide +kernel
theorem dX12_keeps_4 : decode cX12_keeps 4 = .ok (.bipush 16, 2) := by decide +kernel
theorem dX12_keeps_6 : decode cX12_keeps 6 = .ok (.if_icmp .ne 43, 3) := by decide +kernel
theorem dX12_keeps_9 : decode cX12_keeps 9 = .ok (.iconst 0, 1) := by decide +kernel
theorem dX12_keeps_10 : decode cX12_keeps 10 = .ok (.istore_n 1, 1) := by decide +kernel
theorem dX12_keeps_11 : decode cX12_keeps 11 = .ok (.iload_n 1, 1) := by decide +kernel
theorem dX12_keeps_12 : decode cX12_keeps 12 = .ok (.sipush 210, 3) := by decide +kernel
theorem dX12_keeps_15 : decode cX12_keeps 15 = .ok (.if_icmp .ge 24, 3) := by decide +kernel
theorem dX12_keeps_18 : decode cX12_keeps 18 = .ok (.aload_n 0, 1) := by decide +kernel
theorem dX12_keeps_19 : decode cX12_keeps 19 = .ok (.getfield 120, 3) := by decide +kernel
theorem dX12_keeps_22 : decode cX12_keeps 22 = .ok (.iload_n 1, 1) := by decide +kernel
theorem dX12_keeps_23 : decode cX12_keeps 23 = .ok (.aload_n 0, 1) := by decide +kernel
theorem dX12_keeps_24 : decode cX12_keeps 24 = .ok (.getfield 120, 3) := by decide +kernel
theorem dX12_keeps_27 : decode cX12_keeps 27 = .ok (.iload_n 1, 1) := by decide +kernel
theorem dX12_keeps_28 : decode cX12_keeps 28 = .ok (.bipush 14, 2) := by decide +kernel
theorem dX12_keeps_30 : decode cX12_keeps 30 = .ok (.iadd, 1) := by decide +kernel
theorem dX12_keeps_31 : decode cX12_keeps 31 = .ok (.iaload, 1) := by decide +kernel
theorem dX12_keeps_32 : decode cX12_keeps 32 = .ok (.iastore, 1) := by decide +kernel
theorem dX12_keeps_33 : decode cX12_keeps 33 = .ok (.iinc 1 1, 3) := by decide +kernel
theorem dX12_keeps_36 : decode cX12_keeps 36 = .ok (.goto (-25), 3) := by decide +kernel
theorem dX12_keeps_39 : decode cX12_keeps 39 = .ok (.aload_n 0, 1) := by decide +kernel
theorem dX12_keeps_40 : decode cX12_keeps 40 = .ok (.dup, 1) := by decide +kernel
theorem dX12_keeps_41 : decode cX12_keeps 41 = .ok (.getfield 341, 3) := by decide +kernel
theorem dX12_keeps_44 : decode cX12_keeps 44 = .ok (.iconst 1, 1) := by decide +kernel
theorem dX12_keeps_45 : decode cX12_keeps 45 = .ok (.isub, 1) := by decide +kernel
theorem dX12_keeps_46 : decode cX12_keeps 46 = .ok (.putfield 341, 3) := by decide +kernel
theorem dX12_keeps_49 : decode cX12_keeps 49 = .ok (.aload_n 0, 1) := by decide +kernel
theorem dX12_keeps_50 : decode cX12_keeps 50 = .ok (.getfield 108, 3) := by decide +kernel
theorem dX12_keeps_53 : decode cX12_keeps 53 = .ok (.iconst 0, 1) := by decide +kernel
theorem dX12_keeps_54 : decode cX12_keeps 54 = .ok (.aload_n 0, 1) := by decide +kernel
theorem dX12_keeps_55 : decode cX12_keeps 55 = .ok (.getfield 120, 3) := by decide +kernel
theorem dX12_keeps_58 : decode cX12_keeps 58 = .ok (.bipush 14, 2) := by decide +kernel
theorem dX12_keeps_60 : decode cX12_keeps 60 = .ok (.aload_n 0, 1) := by decide +kernel
theorem dX12_keeps_61 : decode cX12_keeps 61 = .ok (.getfield 341, 3) := by decide +kernel
theorem dX12_keeps_64 : decode cX12_keeps 64 = .ok (.imul, 1) := by decide +kernel
theorem dX12_keeps_65 : decode cX12_keeps 65 = .ok (.invokestatic 401, 3) := by decide +kernel
theorem dX12_keeps_68 : decode cX12_keeps 68 = .ok (.aload_n 0, 1) := by decide +kernel
theorem dX12_keeps_69 : decode cX12_keeps 69 = .ok (.dup, 1) := by decide +kernel
theorem dX12_keeps_70 : decode cX12_keeps 70 = .ok (.getfield 341, 3) := by decide +kernel
theorem dX12_keeps_73 : decode cX12_keeps 73 = .ok (.iconst 1, 1) := by decide +kernel
theorem dX12_keeps_74 : decode cX12_keeps 74 = .ok (.iadd, 1) := by decide +kernel
theorem dX12_keeps_75 : decode cX12_keeps 75 = .ok (.putfield 341, 3) := by decide +kernel
theorem dX12_keeps_78 : decode cX12_keeps 78 = .ok (.return_, 1) := by decide +kernel
theorem dX12_work_0 : decode cX12_work 0 = .ok (.aload_n 0, 1) := by decide +kernel
theorem dX12_work_1 : decode cX12_work 1 = .ok (.iconst 0, 1) := by decide +kernel
theorem dX12_work_2 : decode cX12_work 2 = .ok (.putfield 133, 3) := by decide +kernel
theorem dX12_work_5 : decode cX12_work 5 = .ok (.aload_n 0, 1) := by decide +kernel
theorem dX12_work_6 : decode cX12_work 6 = .ok (.iload_n 1, 1) := by decide +kernel
theorem dX12_work_7 : decode cX12_work 7 = .ok (.invokevirtual 392, 3) := by decide +kernel
theorem dX12_work_10 : decode cX12_work 10 = .ok (.ifCond .eq 13, 3) := by decide +kernel
theorem dX12_work_13 : decode cX12_work 13 = .ok (.iload_n 2, 1) := by decide +kernel
theorem dX12_work_14 : decode cX12_work 14 = .ok (.iconst 1, 1) := by decide +kernel
theorem dX12_work_15 : decode cX12_work 15 = .ok (.bipush 20, 2) := by decide +kernel
theorem dX12_work_17 : decode cX12_work 17 = .ok (.invokestatic 253, 3) := by decide +kernel
theorem dX12_work_20 : decode cX12_work 20 = .ok (.ifCond .ne 5, 3) := by decide +kernel
theorem dX12_work_23 : decode cX12_work 23 = .ok (.iconst (-1), 1) := by decide +kernel
theorem dX12_work_24 : decode cX12_work 24 = .ok (.ireturn, 1) := by decide +kernel
theorem dX12_work_25 : decode cX12_work 25 = .ok (.aload_n 0, 1) := by decide +kernel
theorem dX12_work_26 : decode cX12_work 26 = .ok (.invokevirtual 405, 3) := by decide +kernel
theorem dX12_work_29 : decode cX12_work 29 = .ok (.aload_n 0, 1) := by decide +kernel
theorem dX12_work_30 : decode cX12_work 30 = .ok (.iload_n 1, 1) := by decide +kernel
theorem dX12_work_31 : decode cX12_work 31 = .ok (.iload_n 2, 1) := by decide +kernel
theorem dX12_work_32 : decode cX12_work 32 = .ok (.invokevirtual 377, 3) := by decide +kernel
theorem dX12_work_35 : decode cX12_work 35 = .ok (.ireturn, 1) := by decide +kernel
theorem dX12_stop_0 : decode cX12_stop 0 = .ok (.aload_n 0, 1) := by decide +kernel
theorem dX12_stop_1 : decode cX12_stop 1 = .ok (.iconst 0, 1) := by decide +kernel
theorem dX12_stop_2 : decode cX12_stop 2 = .ok (.putfield 133, 3) := by decide +kernel
theorem dX12_stop_5 : decode cX12_stop 5 = .ok (.aload_n 0, 1) := by decide +kernel
theorem dX12_stop_6 : decode cX12_stop 6 = .ok (.iload_n 1, 1) := by decide +kernel
theorem dX12_stop_7 : decode cX12_stop 7 = .ok (.invokevirtual 392, 3) := by decide +kernel
theorem dX12_stop_10 : decode cX12_stop 10 = .ok (.ifCond .eq 13, 3) := by decide +kernel
theorem dX12_stop_13 : decode cX12_stop 13 = .ok (.iload_n 2, 1) := by decide +kernel
theorem dX12_stop_14 : decode cX12_stop 14 = .ok (.iconst 1, 1) := by decide +kernel
theorem dX12_stop_15 : decode cX12_stop 15 = .ok (.bipush 20, 2) := by decide +kernel
theorem dX12_stop_17 : decode cX12_stop 17 = .ok (.invokestatic 253, 3) := by decide +kernel
theorem dX12_stop_20 : decode cX12_stop 20 = .ok (.ifCond .ne 5, 3) := by decide +kernel
theorem dX12_stop_23 : decode cX12_stop 23 = .ok (.iconst (-1), 1) := by decide +kernel
theorem dX12_stop_24 : decode cX12_stop 24 = .ok (.ireturn, 1) := by decide +kernel
theorem dX12_stop_25 : decode cX12_stop 25 = .ok (.aload_n 0, 1) := by decide +kernel
theorem dX12_stop_26 : decode cX12_stop 26 = .ok (.invokevirtual 405, 3) := by decide +kernel
theorem dX12_stop_29 : decode cX12_stop 29 = .ok (.aload_n 0, 1) := by decide +kernel
theorem dX12_stop_30 : decode cX12_stop 30 = .ok (.getfield 108, 3) := by decide +kernel
theorem dX12_stop_33 : decode cX12_stop 33 = .ok (.iconst 3, 1) := by decide +kernel
theorem dX12_stop_34 : decode cX12_stop 34 = .ok (.iload_n 1, 1) := by decide +kernel
theorem dX12_stop_35 : decode cX12_stop 35 = .ok (.iadd, 1) := by decide +kernel
theorem dX12_stop_36 : decode cX12_stop 36 = .ok (.iconst 0, 1) := by decide +kernel
theorem dX12_stop_37 : decode cX12_stop 37 = .ok (.aload_n 0, 1) := by decide +kernel
theorem dX12_stop_38 : decode cX12_stop 38 = .ok (.getfield 108, 3) := by decide +kernel
theorem dX12_stop_41 : decode cX12_stop 41 = .ok (.iconst 3, 1) := by decide +kernel
theorem dX12_stop_42 : decode cX12_stop 42 = .ok (.iload_n 1, 1) := by decide +kernel
theorem dX12_stop_43 : decode cX12_stop 43 = .ok (.iadd, 1) := by decide +kernel
theorem dX12_stop_44 : decode cX12_stop 44 = .ok (.iaload, 1) := by decide +kernel
theorem dX12_stop_45 : decode cX12_stop 45 = .ok (.iload_n 2, 1) := by decide +kernel
theorem dX12_stop_46 : decode cX12_stop 46 = .ok (.isub, 1) := by decide +kernel
theorem dX12_stop_47 : decode cX12_stop 47 = .ok (.invokestatic 360, 3) := by decide +kernel
theorem dX12_stop_50 : decode cX12_stop 50 = .ok (.iastore, 1) := by decide +kernel
theorem dX12_stop_51 : decode cX12_stop 51 = .ok (.aload_n 0, 1) := by decide +kernel
theorem dX12_stop_52 : decode cX12_stop 52 = .ok (.getfield 108, 3) := by decide +kernel
theorem dX12_stop_55 : decode cX12_stop 55 = .ok (.iconst 3, 1) := by decide +kernel
theorem dX12_stop_56 : decode cX12_stop 56 = .ok (.iload_n 1, 1) := by decide +kernel
theorem dX12_stop_57 : decode cX12_stop 57 = .ok (.iadd, 1) := by decide +kernel
theorem dX12_stop_58 : decode cX12_stop 58 = .ok (.iaload, 1) := by decide +kernel
theorem dX12_stop_59 : decode cX12_stop 59 = .ok (.ireturn, 1) := by decide +kernel
theorem dX12_join_0 : decode cX12_join 0 = .ok (.aload_n 0, 1) := by decide +kernel
theorem dX12_join_1 : decode cX12_join 1 = .ok (.iconst 0, 1) := by decide +kernel
theorem dX12_join_2 : decode cX12_join 2 = .ok (.putfield 133, 3) := by decide +kernel
theorem dX12_join_5 : decode cX12_join 5 = .ok (.aload_n 0, 1) := by decide +kernel
theorem dX12_join_6 : decode cX12_join 6 = .ok (.iload_n 1, 1) := by decide +kernel
theorem dX12_join_7 : decode cX12_join 7 = .ok (.invokevirtual 392, 3) := by decide +kernel
theorem dX12_join_10 : decode cX12_join 10 = .ok (.ifCond .eq 20, 3) := by decide +kernel
theorem dX12_join_13 : decode cX12_join 13 = .ok (.aload_n 0, 1) := by decide +kernel
theorem dX12_join_14 : decode cX12_join 14 = .ok (.iload_n 2, 1) := by decide +kernel
theorem dX12_join_15 : decode cX12_join 15 = .ok (.invokevirtual 392, 3) := by decide +kernel
theorem dX12_join_18 : decode cX12_join 18 = .ok (.ifCond .eq 12, 3) := by decide +kernel
theorem dX12_join_21 : decode cX12_join 21 = .ok (.aload_n 0, 1) := by decide +kernel
theorem dX12_join_22 : decode cX12_join 22 = .ok (.iload_n 1, 1) := by decide +kernel
theorem dX12_join_23 : decode cX12_join 23 = .ok (.iload_n 2, 1) := by decide +kernel
theorem dX12_join_24 : decode cX12_join 24 = .ok (.invokevirtual 408, 3) := by decide +kernel
theorem dX12_join_27 : decode cX12_join 27 = .ok (.ifCond .ne 5, 3) := by decide +kernel
theorem dX12_join_30 : decode cX12_join 30 = .ok (.iconst 0, 1) := by decide +kernel
theorem dX12_join_31 : decode cX12_join 31 = .ok (.ireturn, 1) := by decide +kernel
theorem dX12_join_32 : decode cX12_join 32 = .ok (.aload_n 0, 1) := by decide +kernel
theorem dX12_join_33 : decode cX12_join 33 = .ok (.invokevirtual 405, 3) := by decide +kernel
theorem dX12_join_36 : decode cX12_join 36 = .ok (.aload_n 0, 1) := by decide +kernel
theorem dX12_join_37 : decode cX12_join 37 = .ok (.iload_n 1, 1) := by decide +kernel
theorem dX12_join_38 : decode cX12_join 38 = .ok (.iload_n 2, 1) := by decide +kernel
theorem dX12_join_39 : decode cX12_join 39 = .ok (.invokevirtual 411, 3) := by decide +kernel
theorem dX12_join_42 : decode cX12_join 42 = .ok (.iconst 1, 1) := by decide +kernel
theorem dX12_join_43 : decode cX12_join 43 = .ok (.ireturn, 1) := by decide +kernel
theorem dX12_lend_0 : decode cX12_lend 0 = .ok (.aload_n 0, 1) := by decide +kernel
theorem dX12_lend_1 : decode cX12_lend 1 = .ok (.iconst 0, 1) := by decide +kernel
theorem dX12_lend_2 : decode cX12_lend 2 = .ok (.putfield 133, 3) := by decide +kernel
theorem dX12_lend_5 : decode cX12_lend 5 = .ok (.aload_n 0, 1) := by decide +kernel
theorem dX12_lend_6 : decode cX12_lend 6 = .ok (.iload_n 1, 1) := by decide +kernel
theorem dX12_lend_7 : decode cX12_lend 7 = .ok (.invokevirtual 398, 3) := by decide +kernel
theorem dX12_lend_10 : decode cX12_lend 10 = .ok (.ifCond .eq 31, 3) := by decide +kernel
theorem dX12_lend_13 : decode cX12_lend 13 = .ok (.aload_n 0, 1) := by decide +kernel
theorem dX12_lend_14 : decode cX12_lend 14 = .ok (.iload_n 2, 1) := by decide +kernel
theorem dX12_lend_15 : decode cX12_lend 15 = .ok (.invokevirtual 398, 3) := by decide +kernel
theorem dX12_lend_18 : decode cX12_lend 18 = .ok (.ifCond .eq 23, 3) := by decide +kernel
theorem dX12_lend_21 : decode cX12_lend 21 = .ok (.iload_n 3, 1) := by decide +kernel
theorem dX12_lend_22 : decode cX12_lend 22 = .ok (.iconst 1, 1) := by decide +kernel
theorem dX12_lend_23 : decode cX12_lend 23 = .ok (.bipush 20, 2) := by decide +kernel
theorem dX12_lend_25 : decode cX12_lend 25 = .ok (.invokestatic 253, 3) := by decide +kernel
theorem dX12_lend_28 : decode cX12_lend 28 = .ok (.ifCond .eq 13, 3) := by decide +kernel
theorem dX12_lend_31 : decode cX12_lend 31 = .ok (.aload_n 0, 1) := by decide +kernel
theorem dX12_lend_32 : decode cX12_lend 32 = .ok (.iload_n 1, 1) := by decide +kernel
theorem dX12_lend_33 : decode cX12_lend 33 = .ok (.iload_n 2, 1) := by decide +kernel
theorem dX12_lend_34 : decode cX12_lend 34 = .ok (.iload_n 3, 1) := by decide +kernel
theorem dX12_lend_35 : decode cX12_lend 35 = .ok (.invokevirtual 414, 3) := by decide +kernel
theorem dX12_lend_38 : decode cX12_lend 38 = .ok (.ifCond .ne 5, 3) := by decide +kernel
theorem dX12_lend_41 : decode cX12_lend 41 = .ok (.iconst 0, 1) := by decide +kernel
theorem dX12_lend_42 : decode cX12_lend 42 = .ok (.ireturn, 1) := by decide +kernel
theorem dX12_lend_43 : decode cX12_lend 43 = .ok (.aload_n 0, 1) := by decide +kernel
theorem dX12_lend_44 : decode cX12_lend 44 = .ok (.invokevirtual 405, 3) := by decide +kernel
theorem dX12_lend_47 : decode cX12_lend 47 = .ok (.aload_n 0, 1) := by decide +kernel
theorem dX12_lend_48 : decode cX12_lend 48 = .ok (.iload_n 1, 1) := by decide +kernel
theorem dX12_lend_49 : decode cX12_lend 49 = .ok (.iload_n 2, 1) := by decide +kernel
theorem dX12_lend_50 : decode cX12_lend 50 = .ok (.iload_n 3, 1) := by decide +kernel
theorem dX12_lend_51 : decode cX12_lend 51 = .ok (.invokevirtual 417, 3) := by decide +kernel
theorem dX12_lend_54 : decode cX12_lend 54 = .ok (.iconst 1, 1) := by decide +kernel
theorem dX12_lend_55 : decode cX12_lend 55 = .ok (.ireturn, 1) := by decide +kernel
theorem dX12_week_0 : decode cX12_week 0 = .ok (.aload_n 0, 1) := by decide +kernel
theorem dX12_week_1 : decode cX12_week 1 = .ok (.iconst 0, 1) := by decide +kernel
theorem dX12_week_2 : decode cX12_week 2 = .ok (.putfield 133, 3) := by decide +kernel
theorem dX12_week_5 : decode cX12_week 5 = .ok (.aload_n 0, 1) := by decide +kernel
theorem dX12_week_6 : decode cX12_week 6 = .ok (.invokevirtual 405, 3) := by decide +kernel
theorem dX12_week_9 : decode cX12_week 9 = .ok (.aload_n 0, 1) := by decide +kernel
theorem dX12_week_10 : decode cX12_week 10 = .ok (.invokevirtual 421, 3) := by decide +kernel
theorem dX12_week_13 : decode cX12_week 13 = .ok (.ireturn, 1) := by decide +kernel
theorem dX12_undo_0 : decode cX12_undo 0 = .ok (.aload_n 0, 1) := by decide +kernel
theorem dX12_undo_1 : decode cX12_undo 1 = .ok (.iconst 0, 1) := by decide +kernel
theorem dX12_undo_2 : decode cX12_undo 2 = .ok (.putfield 133, 3) := by decide +kernel
theorem dX12_undo_5 : decode cX12_undo 5 = .ok (.aload_n 0, 1) := by decide +kernel
theorem dX12_undo_6 : decode cX12_undo 6 = .ok (.getfield 341, 3) := by decide +kernel
theorem dX12_undo_9 : decode cX12_undo 9 = .ok (.ifCond .ne 5, 3) := by decide +kernel
theorem dX12_undo_12 : decode cX12_undo 12 = .ok (.iconst 0, 1) := by decide +kernel
theorem dX12_undo_13 : decode cX12_undo 13 = .ok (.ireturn, 1) := by decide +kernel
theorem dX12_undo_14 : decode cX12_undo 14 = .ok (.aload_n 0, 1) := by decide +kernel
theorem dX12_undo_15 : decode cX12_undo 15 = .ok (.dup, 1) := by decide +kernel
theorem dX12_undo_16 : decode cX12_undo 16 = .ok (.getfield 341, 3) := by decide +kernel
theorem dX12_undo_19 : decode cX12_undo 19 = .ok (.iconst 1, 1) := by decide +kernel
theorem dX12_undo_20 : decode cX12_undo 20 = .ok (.isub, 1) := by decide +kernel
theorem dX12_undo_21 : decode cX12_undo 21 = .ok (.putfield 341, 3) := by decide +kernel
theorem dX12_undo_24 : decode cX12_undo 24 = .ok (.aload_n 0, 1) := by decide +kernel
theorem dX12_undo_25 : decode cX12_undo 25 = .ok (.getfield 120, 3) := by decide +kernel
theorem dX12_undo_28 : decode cX12_undo 28 = .ok (.bipush 14, 2) := by decide +kernel
theorem dX12_undo_30 : decode cX12_undo 30 = .ok (.aload_n 0, 1) := by decide +kernel
theorem dX12_undo_31 : decode cX12_undo 31 = .ok (.getfield 341, 3) := by decide +kernel
theorem dX12_undo_34 : decode cX12_undo 34 = .ok (.imul, 1) := by decide +kernel
theorem dX12_undo_35 : decode cX12_undo 35 = .ok (.aload_n 0, 1) := by decide +kernel
theorem dX12_undo_36 : decode cX12_undo 36 = .ok (.getfield 108, 3) := by decide +kernel
theorem dX12_undo_39 : decode cX12_undo 39 = .ok (.iconst 0, 1) := by decide +kernel
theorem dX12_undo_40 : decode cX12_undo 40 = .ok (.invokestatic 401, 3) := by decide +kernel
theorem dX12_undo_43 : decode cX12_undo 43 = .ok (.iconst 1, 1) := by decide +kernel
theorem dX12_undo_44 : decode cX12_undo 44 = .ok (.ireturn, 1) := by decide +kernel
theorem dX12_goes_0 : decode cX12_goes 0 = .ok (.aload_n 0, 1) := by decide +kernel
theorem dX12_goes_1 : decode cX12_goes 1 = .ok (.getfield 90, 3) := by decide +kernel
theorem dX12_goes_4 : decode cX12_goes 4 = .ok (.iload_n 1, 1) := by decide +kernel
theorem dX12_goes_5 : decode cX12_goes 5 = .ok (.iaload, 1) := by decide +kernel
theorem dX12_goes_6 : decode cX12_goes 6 = .ok (.istore_n 2, 1) := by decide +kernel
theorem dX12_goes_7 : decode cX12_goes 7 = .ok (.aload_n 0, 1) := by decide +kernel
theorem dX12_goes_8 : decode cX12_goes 8 = .ok (.getfield 87, 3) := by decide +kernel
theorem dX12_goes_11 : decode cX12_goes 11 = .ok (.iload_n 1, 1) := by decide +kernel
theorem dX12_goes_12 : decode cX12_goes 12 = .ok (.iaload, 1) := by decide +kernel
theorem dX12_goes_13 : decode cX12_goes 13 = .ok (.istore_n 3, 1) := by decide +kernel
theorem dX12_goes_14 : decode cX12_goes 14 = .ok (.iload_n 3, 1) := by decide +kernel
theorem dX12_goes_15 : decode cX12_goes 15 = .ok (.ifCond .ne 18, 3) := by decide +kernel
theorem dX12_goes_18 : decode cX12_goes 18 = .ok (.aload_n 0, 1) := by decide +kernel
theorem dX12_goes_19 : decode cX12_goes 19 = .ok (.iload_n 2, 1) := by decide +kernel
theorem dX12_goes_20 : decode cX12_goes 20 = .ok (.aload_n 0, 1) := by decide +kernel
theorem dX12_goes_21 : decode cX12_goes 21 = .ok (.getfield 96, 3) := by decide +kernel
theorem dX12_goes_24 : decode cX12_goes 24 = .ok (.iload_n 1, 1) := by decide +kernel
theorem dX12_goes_25 : decode cX12_goes 25 = .ok (.iaload, 1) := by decide +kernel
theorem dX12_goes_26 : decode cX12_goes 26 = .ok (.invokevirtual 377, 3) := by decide +kernel
theorem dX12_goes_29 : decode cX12_goes 29 = .ok (.pop, 1) := by decide +kernel
theorem dX12_goes_30 : decode cX12_goes 30 = .ok (.goto 125, 3) := by decide +kernel
theorem dX12_goes_33 : decode cX12_goes 33 = .ok (.iload_n 3, 1) := by decide +kernel
theorem dX12_goes_34 : decode cX12_goes 34 = .ok (.iconst 1, 1) := by decide +kernel
theorem dX12_goes_35 : decode cX12_goes 35 = .ok (.if_icmp .ne 33, 3) := by decide +kernel
theorem dX12_goes_38 : decode cX12_goes 38 = .ok (.aload_n 0, 1) := by decide +kernel
theorem dX12_goes_39 : decode cX12_goes 39 = .ok (.getfield 108, 3) := by decide +kernel
theorem dX12_goes_42 : decode cX12_goes 42 = .ok (.iconst 3, 1) := by decide +kernel
theorem dX12_goes_43 : decode cX12_goes 43 = .ok (.iload_n 2, 1) := by decide +kernel
theorem dX12_goes_44 : decode cX12_goes 44 = .ok (.iadd, 1) := by decide +kernel
theorem dX12_goes_45 : decode cX12_goes 45 = .ok (.iconst 0, 1) := by decide +kernel
theorem dX12_goes_46 : decode cX12_goes 46 = .ok (.aload_n 0, 1) := by decide +kernel
theorem dX12_goes_47 : decode cX12_goes 47 = .ok (.getfield 108, 3) := by decide +kernel
theorem dX12_goes_50 : decode cX12_goes 50 = .ok (.iconst 3, 1) := by decide +kernel
theorem dX12_goes_51 : decode cX12_goes 51 = .ok (.iload_n 2, 1) := by decide +kernel
theorem dX12_goes_52 : decode cX12_goes 52 = .ok (.iadd, 1) := by decide +kernel
theorem dX12_goes_53 : decode cX12_goes 53 = .ok (.iaload, 1) := by decide +kernel
theorem dX12_goes_54 : decode cX12_goes 54 = .ok (.aload_n 0, 1) := by decide +kernel
theorem dX12_goes_55 : decode cX12_goes 55 = .ok (.getfield 96, 3) := by decide +kernel
theorem dX12_goes_58 : decode cX12_goes 58 = .ok (.iload_n 1, 1) := by decide +kernel
theorem dX12_goes_59 : decode cX12_goes 59 = .ok (.iaload, 1) := by decide +kernel
theorem dX12_goes_60 : decode cX12_goes 60 = .ok (.isub, 1) := by decide +kernel
theorem dX12_goes_61 : decode cX12_goes 61 = .ok (.invokestatic 360, 3) := by decide +kernel
theorem dX12_goes_64 : decode cX12_goes 64 = .ok (.iastore, 1) := by decide +kernel
theorem dX12_goes_65 : decode cX12_goes 65 = .ok (.goto 90, 3) := by decide +kernel
theorem dX12_goes_68 : decode cX12_goes 68 = .ok (.iload_n 3, 1) := by decide +kernel
theorem dX12_goes_69 : decode cX12_goes 69 = .ok (.iconst 2, 1) := by decide +kernel
theorem dX12_goes_70 : decode cX12_goes 70 = .ok (.if_icmp .ne 33, 3) := by decide +kernel
theorem dX12_goes_73 : decode cX12_goes 73 = .ok (.aload_n 0, 1) := by decide +kernel
theorem dX12_goes_74 : decode cX12_goes 74 = .ok (.iload_n 2, 1) := by decide +kernel
theorem dX12_goes_75 : decode cX12_goes 75 = .ok (.aload_n 0, 1) := by decide +kernel
theorem dX12_goes_76 : decode cX12_goes 76 = .ok (.getfield 93, 3) := by decide +kernel
theorem dX12_goes_79 : decode cX12_goes 79 = .ok (.iload_n 1, 1) := by decide +kernel
theorem dX12_goes_80 : decode cX12_goes 80 = .ok (.iaload, 1) := by decide +kernel
theorem dX12_goes_81 : decode cX12_goes 81 = .ok (.invokevirtual 408, 3) := by decide +kernel
theorem dX12_goes_84 : decode cX12_goes 84 = .ok (.ifCond .ne 5, 3) := by decide +kernel
theorem dX12_goes_87 : decode cX12_goes 87 = .ok (.iconst 0, 1) := by decide +kernel
theorem dX12_goes_88 : decode cX12_goes 88 = .ok (.ireturn, 1) := by decide +kernel
theorem dX12_goes_89 : decode cX12_goes 89 = .ok (.aload_n 0, 1) := by decide +kernel
theorem dX12_goes_90 : decode cX12_goes 90 = .ok (.iload_n 2, 1) := by decide +kernel
theorem dX12_goes_91 : decode cX12_goes 91 = .ok (.aload_n 0, 1) := by decide +kernel
theorem dX12_goes_92 : decode cX12_goes 92 = .ok (.getfield 93, 3) := by decide +kernel
theorem dX12_goes_95 : decode cX12_goes 95 = .ok (.iload_n 1, 1) := by decide +kernel
theorem dX12_goes_96 : decode cX12_goes 96 = .ok (.iaload, 1) := by decide +kernel
theorem dX12_goes_97 : decode cX12_goes 97 = .ok (.invokevirtual 411, 3) := by decide +kernel
theorem dX12_goes_100 : decode cX12_goes 100 = .ok (.goto 55, 3) := by decide +kernel
theorem dX12_goes_103 : decode cX12_goes 103 = .ok (.iload_n 3, 1) := by decide +kernel
theorem dX12_goes_104 : decode cX12_goes 104 = .ok (.iconst 3, 1) := by decide +kernel
theorem dX12_goes_105 : decode cX12_goes 105 = .ok (.if_icmp .ne 45, 3) := by decide +kernel
theorem dX12_goes_108 : decode cX12_goes 108 = .ok (.aload_n 0, 1) := by decide +kernel
theorem dX12_goes_109 : decode cX12_goes 109 = .ok (.iload_n 2, 1) := by decide +kernel
theorem dX12_goes_110 : decode cX12_goes 110 = .ok (.aload_n 0, 1) := by decide +kernel
theorem dX12_goes_111 : decode cX12_goes 111 = .ok (.getfield 93, 3) := by decide +kernel
theorem dX12_goes_114 : decode cX12_goes 114 = .ok (.iload_n 1, 1) := by decide +kernel
theorem dX12_goes_115 : decode cX12_goes 115 = .ok (.iaload, 1) := by decide +kernel
theorem dX12_goes_116 : decode cX12_goes 116 = .ok (.aload_n 0, 1) := by decide +kernel
theorem dX12_goes_117 : decode cX12_goes 117 = .ok (.getfield 96, 3) := by decide +kernel
theorem dX12_goes_120 : decode cX12_goes 120 = .ok (.iload_n 1, 1) := by decide +kernel
theorem dX12_goes_121 : decode cX12_goes 121 = .ok (.iaload, 1) := by decide +kernel
theorem dX12_goes_122 : decode cX12_goes 122 = .ok (.invokevirtual 414, 3) := by decide +kernel
theorem dX12_goes_125 : decode cX12_goes 125 = .ok (.ifCond .ne 5, 3) := by decide +kernel
theorem dX12_goes_128 : decode cX12_goes 128 = .ok (.iconst 0, 1) := by decide +kernel
theorem dX12_goes_129 : decode cX12_goes 129 = .ok (.ireturn, 1) := by decide +kernel
theorem dX12_goes_130 : decode cX12_goes 130 = .ok (.aload_n 0, 1) := by decide +kernel
theorem dX12_goes_131 : decode cX12_goes 131 = .ok (.iload_n 2, 1) := by decide +kernel
theorem dX12_goes_132 : decode cX12_goes 132 = .ok (.aload_n 0, 1) := by decide +kernel
theorem dX12_goes_133 : decode cX12_goes 133 = .ok (.getfield 93, 3) := by decide +kernel
theorem dX12_goes_136 : decode cX12_goes 136 = .ok (.iload_n 1, 1) := by decide +kernel
theorem dX12_goes_137 : decode cX12_goes 137 = .ok (.iaload, 1) := by decide +kernel
theorem dX12_goes_138 : decode cX12_goes 138 = .ok (.aload_n 0, 1) := by decide +kernel
theorem dX12_goes_139 : decode cX12_goes 139 = .ok (.getfield 96, 3) := by decide +kernel
theorem dX12_goes_142 : decode cX12_goes 142 = .ok (.iload_n 1, 1) := by decide +kernel
theorem dX12_goes_143 : decode cX12_goes 143 = .ok (.iaload, 1) := by decide +kernel
theorem dX12_goes_144 : decode cX12_goes 144 = .ok (.invokevirtual 417, 3) := by decide +kernel
theorem dX12_goes_147 : decode cX12_goes 147 = .ok (.goto 8, 3) := by decide +kernel
theorem dX12_goes_150 : decode cX12_goes 150 = .ok (.aload_n 0, 1) := by decide +kernel
theorem dX12_goes_151 : decode cX12_goes 151 = .ok (.invokevirtual 421, 3) := by decide +kernel
theorem dX12_goes_154 : decode cX12_goes 154 = .ok (.pop, 1) := by decide +kernel
theorem dX12_goes_155 : decode cX12_goes 155 = .ok (.iconst 1, 1) := by decide +kernel
theorem dX12_goes_156 : decode cX12_goes 156 = .ok (.ireturn, 1) := by decide +kernel
theorem dX12_judged_0 : decode cX12_judged 0 = .ok (.aload_n 0, 1) := by decide +kernel
theorem dX12_judged_1 : decode cX12_judged 1 = .ok (.iconst 0, 1) := by decide +kernel
theorem dX12_judged_2 : decode cX12_judged 2 = .ok (.putfield 133, 3) := by decide +kernel
theorem dX12_judged_5 : decode cX12_judged 5 = .ok (.iload_n 1, 1) := by decide +kernel
theorem dX12_judged_6 : decode cX12_judged 6 = .ok (.iconst 0, 1) := by decide +kernel
theorem dX12_judged_7 : decode cX12_judged 7 = .ok (.iconst 2, 1) := by decide +kernel
theorem dX12_judged_8 : decode cX12_judged 8 = .ok (.invokestatic 253, 3) := by decide +kernel
theorem dX12_judged_11 : decode cX12_judged 11 = .ok (.ifCond .ne 6, 3) := by decide +kernel
theorem dX12_judged_14 : decode cX12_judged 14 = .ok (.bipush (-2), 2) := by decide +kernel
theorem dX12_judged_16 : decode cX12_judged 16 = .ok (.ireturn, 1) := by decide +kernel
theorem dX12_judged_17 : decode cX12_judged 17 = .ok (.aload_n 0, 1) := by decide +kernel
theorem dX12_judged_18 : decode cX12_judged 18 = .ok (.getfield 108, 3) := by decide +kernel
theorem dX12_judged_21 : decode cX12_judged 21 = .ok (.iconst 0, 1) := by decide +kernel
theorem dX12_judged_22 : decode cX12_judged 22 = .ok (.aload_n 0, 1) := by decide +kernel
theorem dX12_judged_23 : decode cX12_judged 23 = .ok (.getfield 111, 3) := by decide +kernel
theorem dX12_judged_26 : decode cX12_judged 26 = .ok (.iconst 0, 1) := by decide +kernel
theorem dX12_judged_27 : decode cX12_judged 27 = .ok (.invokestatic 401, 3) := by decide +kernel
theorem dX12_judged_30 : decode cX12_judged 30 = .ok (.aload_n 0, 1) := by decide +kernel
theorem dX12_judged_31 : decode cX12_judged 31 = .ok (.invokevirtual 338, 3) := by decide +kernel
theorem dX12_judged_34 : decode cX12_judged 34 = .ok (.iconst (-1), 1) := by decide +kernel
theorem dX12_judged_35 : decode cX12_judged 35 = .ok (.istore_n 2, 1) := by decide +kernel
theorem dX12_judged_36 : decode cX12_judged 36 = .ok (.iconst (-1), 1) := by decide +kernel
theorem dX12_judged_37 : decode cX12_judged 37 = .ok (.istore_n 3, 1) := by decide +kernel
theorem dX12_judged_38 : decode cX12_judged 38 = .ok (.iconst 0, 1) := by decide +kernel
theorem dX12_judged_39 : decode cX12_judged 39 = .ok (.istore 4, 2) := by decide +kernel
theorem dX12_judged_41 : decode cX12_judged 41 = .ok (.iload 4, 2) := by decide +kernel
theorem dX12_judged_43 : decode cX12_judged 43 = .ok (.aload_n 0, 1) := by decide +kernel
theorem dX12_judged_44 : decode cX12_judged 44 = .ok (.getfield 84, 3) := by decide +kernel
theorem dX12_judged_47 : decode cX12_judged 47 = .ok (.iconst 0, 1) := by decide +kernel
theorem dX12_judged_48 : decode cX12_judged 48 = .ok (.iaload, 1) := by decide +kernel
theorem dX12_judged_49 : decode cX12_judged 49 = .ok (.if_icmp .ge 41, 3) := by decide +kernel
theorem dX12_judged_52 : decode cX12_judged 52 = .ok (.aload_n 0, 1) := by decide +kernel
theorem dX12_judged_53 : decode cX12_judged 53 = .ok (.iload 4, 2) := by decide +kernel
theorem dX12_judged_55 : decode cX12_judged 55 = .ok (.invokevirtual 424, 3) := by decide +kernel
theorem dX12_judged_58 : decode cX12_judged 58 = .ok (.ifCond .ne 10, 3) := by decide +kernel
theorem dX12_judged_61 : decode cX12_judged 61 = .ok (.iload_n 2, 1) := by decide +kernel
theorem dX12_judged_62 : decode cX12_judged 62 = .ok (.ifCond .ge 6, 3) := by decide +kernel
theorem dX12_judged_65 : decode cX12_judged 65 = .ok (.iload 4, 2) := by decide +kernel
theorem dX12_judged_67 : decode cX12_judged 67 = .ok (.istore_n 2, 1) := by decide +kernel
theorem dX12_judged_68 : decode cX12_judged 68 = .ok (.aload_n 0, 1) := by decide +kernel
theorem dX12_judged_69 : decode cX12_judged 69 = .ok (.getfield 108, 3) := by decide +kernel
theorem dX12_judged_72 : decode cX12_judged 72 = .ok (.iconst 1, 1) := by decide +kernel
theorem dX12_judged_73 : decode cX12_judged 73 = .ok (.iaload, 1) := by decide +kernel
theorem dX12_judged_74 : decode cX12_judged 74 = .ok (.ifCond .le 10, 3) := by decide +kernel
theorem dX12_judged_77 : decode cX12_judged 77 = .ok (.iload_n 3, 1) := by decide +kernel
theorem dX12_judged_78 : decode cX12_judged 78 = .ok (.ifCond .ge 6, 3) := by decide +kernel
theorem dX12_judged_81 : decode cX12_judged 81 = .ok (.iload 4, 2) := by decide +kernel
theorem dX12_judged_83 : decode cX12_judged 83 = .ok (.istore_n 3, 1) := by decide +kernel
theorem dX12_judged_84 : decode cX12_judged 84 = .ok (.iinc 4 1, 3) := by decide +kernel
theorem dX12_judged_87 : decode cX12_judged 87 = .ok (.goto (-46), 3) := by decide +kernel
theorem dX12_judged_90 : decode cX12_judged 90 = .ok (.aload_n 0, 1) := by decide +kernel
theorem dX12_judged_91 : decode cX12_judged 91 = .ok (.getfield 108, 3) := by decide +kernel
theorem dX12_judged_94 : decode cX12_judged 94 = .ok (.iconst 1, 1) := by decide +kernel
theorem dX12_judged_95 : decode cX12_judged 95 = .ok (.iaload, 1) := by decide +kernel
theorem dX12_judged_96 : decode cX12_judged 96 = .ok (.istore 4, 2) := by decide +kernel
theorem dX12_judged_98 : decode cX12_judged 98 = .ok (.aload_n 0, 1) := by decide +kernel
theorem dX12_judged_99 : decode cX12_judged 99 = .ok (.getfield 111, 3) := by decide +kernel
theorem dX12_judged_102 : decode cX12_judged 102 = .ok (.iconst 0, 1) := by decide +kernel
theorem dX12_judged_103 : decode cX12_judged 103 = .ok (.aload_n 0, 1) := by decide +kernel
theorem dX12_judged_104 : decode cX12_judged 104 = .ok (.getfield 108, 3) := by decide +kernel
theorem dX12_judged_107 : decode cX12_judged 107 = .ok (.iconst 0, 1) := by decide +kernel
theorem dX12_judged_108 : decode cX12_judged 108 = .ok (.invokestatic 401, 3) := by decide +kernel
theorem dX12_judged_111 : decode cX12_judged 111 = .ok (.iload_n 1, 1) := by decide +kernel
theorem dX12_judged_112 : decode cX12_judged 112 = .ok (.ifCond .ne 7, 3) := by decide +kernel
theorem dX12_judged_115 : decode cX12_judged 115 = .ok (.iload_n 2, 1) := by decide +kernel
theorem dX12_judged_116 : decode cX12_judged 116 = .ok (.goto 14, 3) := by decide +kernel
theorem dX12_judged_119 : decode cX12_judged 119 = .ok (.iload_n 1, 1) := by decide +kernel
theorem dX12_judged_120 : decode cX12_judged 120 = .ok (.iconst 1, 1) := by decide +kernel
theorem dX12_judged_121 : decode cX12_judged 121 = .ok (.if_icmp .ne 7, 3) := by decide +kernel
theorem dX12_judged_124 : decode cX12_judged 124 = .ok (.iload_n 3, 1) := by decide +kernel
theorem dX12_judged_125 : decode cX12_judged 125 = .ok (.goto 5, 3) := by decide +kernel
theorem dX12_judged_128 : decode cX12_judged 128 = .ok (.iload 4, 2) := by decide +kernel
theorem dX12_judged_130 : decode cX12_judged 130 = .ok (.ireturn, 1) := by decide +kernel
theorem dX12_when_0 : decode cX12_when 0 = .ok (.aload_n 0, 1) := by decide +kernel
theorem dX12_when_1 : decode cX12_when 1 = .ok (.iconst 0, 1) := by decide +kernel
theorem dX12_when_2 : decode cX12_when 2 = .ok (.putfield 133, 3) := by decide +kernel
theorem dX12_when_5 : decode cX12_when 5 = .ok (.aload_n 0, 1) := by decide +kernel
theorem dX12_when_6 : decode cX12_when 6 = .ok (.iload_n 1, 1) := by decide +kernel
theorem dX12_when_7 : decode cX12_when 7 = .ok (.invokevirtual 392, 3) := by decide +kernel
theorem dX12_when_10 : decode cX12_when 10 = .ok (.ifCond .ne 5, 3) := by decide +kernel
theorem dX12_when_13 : decode cX12_when 13 = .ok (.iconst (-1), 1) := by decide +kernel
theorem dX12_when_14 : decode cX12_when 14 = .ok (.ireturn, 1) := by decide +kernel
theorem dX12_when_15 : decode cX12_when 15 = .ok (.aload_n 0, 1) := by decide +kernel
theorem dX12_when_16 : decode cX12_when 16 = .ok (.getfield 108, 3) := by decide +kernel
theorem dX12_when_19 : decode cX12_when 19 = .ok (.iconst 0, 1) := by decide +kernel
theorem dX12_when_20 : decode cX12_when 20 = .ok (.aload_n 0, 1) := by decide +kernel
theorem dX12_when_21 : decode cX12_when 21 = .ok (.getfield 114, 3) := by decide +kernel
theorem dX12_when_24 : decode cX12_when 24 = .ok (.iconst 0, 1) := by decide +kernel
theorem dX12_when_25 : decode cX12_when 25 = .ok (.invokestatic 401, 3) := by decide +kernel
theorem dX12_when_28 : decode cX12_when 28 = .ok (.iconst 0, 1) := by decide +kernel
theorem dX12_when_29 : decode cX12_when 29 = .ok (.istore_n 2, 1) := by decide +kernel
theorem dX12_when_30 : decode cX12_when 30 = .ok (.iload_n 2, 1) := by decide +kernel
theorem dX12_when_31 : decode cX12_when 31 = .ok (.bipush 60, 2) := by decide +kernel
theorem dX12_when_33 : decode cX12_when 33 = .ok (.if_icmp .gt 22, 3) := by decide +kernel
theorem dX12_when_36 : decode cX12_when 36 = .ok (.aload_n 0, 1) := by decide +kernel
theorem dX12_when_37 : decode cX12_when 37 = .ok (.iload_n 1, 1) := by decide +kernel
theorem dX12_when_38 : decode cX12_when 38 = .ok (.invokevirtual 386, 3) := by decide +kernel
theorem dX12_when_41 : decode cX12_when 41 = .ok (.ifCond .ne 14, 3) := by decide +kernel
theorem dX12_when_44 : decode cX12_when 44 = .ok (.aload_n 0, 1) := by decide +kernel
theorem dX12_when_45 : decode cX12_when 45 = .ok (.invokevirtual 421, 3) := by decide +kernel
theorem dX12_when_48 : decode cX12_when 48 = .ok (.pop, 1) := by decide +kernel
theorem dX12_when_49 : decode cX12_when 49 = .ok (.iinc 2 1, 3) := by decide +kernel
theorem dX12_when_52 : decode cX12_when 52 = .ok (.goto (-22), 3) := by decide +kernel
theorem dX12_when_55 : decode cX12_when 55 = .ok (.aload_n 0, 1) := by decide +kernel
theorem dX12_when_56 : decode cX12_when 56 = .ok (.getfield 114, 3) := by decide +kernel
theorem dX12_when_59 : decode cX12_when 59 = .ok (.iconst 0, 1) := by decide +kernel
theorem dX12_when_60 : decode cX12_when 60 = .ok (.aload_n 0, 1) := by decide +kernel
theorem dX12_when_61 : decode cX12_when 61 = .ok (.getfield 108, 3) := by decide +kernel
theorem dX12_when_64 : decode cX12_when 64 = .ok (.iconst 0, 1) := by decide +kernel
theorem dX12_when_65 : decode cX12_when 65 = .ok (.invokestatic 401, 3) := by decide +kernel
theorem dX12_when_68 : decode cX12_when 68 = .ok (.iload_n 2, 1) := by decide +kernel
theorem dX12_when_69 : decode cX12_when 69 = .ok (.bipush 60, 2) := by decide +kernel
theorem dX12_when_71 : decode cX12_when 71 = .ok (.if_icmp .le 7, 3) := by decide +kernel
theorem dX12_when_74 : decode cX12_when 74 = .ok (.iconst (-1), 1) := by decide +kernel
theorem dX12_when_75 : decode cX12_when 75 = .ok (.goto 4, 3) := by decide +kernel
theorem dX12_when_78 : decode cX12_when 78 = .ok (.iload_n 2, 1) := by decide +kernel
theorem dX12_when_79 : decode cX12_when 79 = .ok (.ireturn, 1) := by decide +kernel
theorem dX12_caught_0 : decode cX12_caught 0 = .ok (.aload_n 0, 1) := by decide +kernel
theorem dX12_caught_1 : decode cX12_caught 1 = .ok (.iconst 0, 1) := by decide +kernel
theorem dX12_caught_2 : decode cX12_caught 2 = .ok (.putfield 133, 3) := by decide +kernel
theorem dX12_caught_5 : decode cX12_caught 5 = .ok (.aload_n 0, 1) := by decide +kernel
theorem dX12_caught_6 : decode cX12_caught 6 = .ok (.iload_n 1, 1) := by decide +kernel
theorem dX12_caught_7 : decode cX12_caught 7 = .ok (.invokevirtual 392, 3) := by decide +kernel
theorem dX12_caught_10 : decode cX12_caught 10 = .ok (.ifCond .ne 5, 3) := by decide +kernel
theorem dX12_caught_13 : decode cX12_caught 13 = .ok (.iconst (-1), 1) := by decide +kernel
theorem dX12_caught_14 : decode cX12_caught 14 = .ok (.ireturn, 1) := by decide +kernel
theorem dX12_caught_15 : decode cX12_caught 15 = .ok (.aload_n 0, 1) := by decide +kernel
theorem dX12_caught_16 : decode cX12_caught 16 = .ok (.getfield 108, 3) := by decide +kernel
theorem dX12_caught_19 : decode cX12_caught 19 = .ok (.iconst 0, 1) := by decide +kernel
theorem dX12_caught_20 : decode cX12_caught 20 = .ok (.aload_n 0, 1) := by decide +kernel
theorem dX12_caught_21 : decode cX12_caught 21 = .ok (.getfield 114, 3) := by decide +kernel
theorem dX12_caught_24 : decode cX12_caught 24 = .ok (.iconst 0, 1) := by decide +kernel
theorem dX12_caught_25 : decode cX12_caught 25 = .ok (.invokestatic 401, 3) := by decide +kernel
theorem dX12_caught_28 : decode cX12_caught 28 = .ok (.iconst (-1), 1) := by decide +kernel
theorem dX12_caught_29 : decode cX12_caught 29 = .ok (.istore_n 2, 1) := by decide +kernel
theorem dX12_caught_30 : decode cX12_caught 30 = .ok (.iconst 1, 1) := by decide +kernel
theorem dX12_caught_31 : decode cX12_caught 31 = .ok (.istore_n 3, 1) := by decide +kernel
theorem dX12_caught_32 : decode cX12_caught 32 = .ok (.iload_n 3, 1) := by decide +kernel
theorem dX12_caught_33 : decode cX12_caught 33 = .ok (.bipush 60, 2) := by decide +kernel
theorem dX12_caught_35 : decode cX12_caught 35 = .ok (.if_icmp .gt 32, 3) := by decide +kernel
theorem dX12_caught_38 : decode cX12_caught 38 = .ok (.iload_n 2, 1) := by decide +kernel
theorem dX12_caught_39 : decode cX12_caught 39 = .ok (.ifCond .ge 28, 3) := by decide +kernel
theorem dX12_caught_42 : decode cX12_caught 42 = .ok (.aload_n 0, 1) := by decide +kernel
theorem dX12_caught_43 : decode cX12_caught 43 = .ok (.invokevirtual 421, 3) := by decide +kernel
theorem dX12_caught_46 : decode cX12_caught 46 = .ok (.pop, 1) := by decide +kernel
theorem dX12_caught_47 : decode cX12_caught 47 = .ok (.aload_n 0, 1) := by decide +kernel
theorem dX12_caught_48 : decode cX12_caught 48 = .ok (.getfield 380, 3) := by decide +kernel
theorem dX12_caught_51 : decode cX12_caught 51 = .ok (.iload_n 1, 1) := by decide +kernel
theorem dX12_caught_52 : decode cX12_caught 52 = .ok (.ishr, 1) := by decide +kernel
theorem dX12_caught_53 : decode cX12_caught 53 = .ok (.iconst 1, 1) := by decide +kernel
theorem dX12_caught_54 : decode cX12_caught 54 = .ok (.iand, 1) := by decide +kernel
theorem dX12_caught_55 : decode cX12_caught 55 = .ok (.iconst 1, 1) := by decide +kernel
theorem dX12_caught_56 : decode cX12_caught 56 = .ok (.if_icmp .ne 5, 3) := by decide +kernel
theorem dX12_caught_59 : decode cX12_caught 59 = .ok (.iload_n 3, 1) := by decide +kernel
theorem dX12_caught_60 : decode cX12_caught 60 = .ok (.istore_n 2, 1) := by decide +kernel
theorem dX12_caught_61 : decode cX12_caught 61 = .ok (.iinc 3 1, 3) := by decide +kernel
theorem dX12_caught_64 : decode cX12_caught 64 = .ok (.goto (-32), 3) := by decide +kernel
theorem dX12_caught_67 : decode cX12_caught 67 = .ok (.aload_n 0, 1) := by decide +kernel
theorem dX12_caught_68 : decode cX12_caught 68 = .ok (.getfield 114, 3) := by decide +kernel
theorem dX12_caught_71 : decode cX12_caught 71 = .ok (.iconst 0, 1) := by decide +kernel
theorem dX12_caught_72 : decode cX12_caught 72 = .ok (.aload_n 0, 1) := by decide +kernel
theorem dX12_caught_73 : decode cX12_caught 73 = .ok (.getfield 108, 3) := by decide +kernel
theorem dX12_caught_76 : decode cX12_caught 76 = .ok (.iconst 0, 1) := by decide +kernel
theorem dX12_caught_77 : decode cX12_caught 77 = .ok (.invokestatic 401, 3) := by decide +kernel
theorem dX12_caught_80 : decode cX12_caught 80 = .ok (.iload_n 2, 1) := by decide +kernel
theorem dX12_caught_81 : decode cX12_caught 81 = .ok (.ireturn, 1) := by decide +kernel
theorem dX12_joined_0 : decode cX12_joined 0 = .ok (.aload_n 0, 1) := by decide +kernel
theorem dX12_joined_1 : decode cX12_joined 1 = .ok (.iconst 0, 1) := by decide +kernel
theorem dX12_joined_2 : decode cX12_joined 2 = .ok (.putfield 133, 3) := by decide +kernel
theorem dX12_joined_5 : decode cX12_joined 5 = .ok (.aload_n 0, 1) := by decide +kernel
theorem dX12_joined_6 : decode cX12_joined 6 = .ok (.iload_n 1, 1) := by decide +kernel
theorem dX12_joined_7 : decode cX12_joined 7 = .ok (.invokevirtual 392, 3) := by decide +kernel
theorem dX12_joined_10 : decode cX12_joined 10 = .ok (.ifCond .eq 31, 3) := by decide +kernel
theorem dX12_joined_13 : decode cX12_joined 13 = .ok (.aload_n 0, 1) := by decide +kernel
theorem dX12_joined_14 : decode cX12_joined 14 = .ok (.iload_n 2, 1) := by decide +kernel
theorem dX12_joined_15 : decode cX12_joined 15 = .ok (.invokevirtual 392, 3) := by decide +kernel
theorem dX12_joined_18 : decode cX12_joined 18 = .ok (.ifCond .eq 23, 3) := by decide +kernel
theorem dX12_joined_21 : decode cX12_joined 21 = .ok (.aload_n 0, 1) := by decide +kernel
theorem dX12_joined_22 : decode cX12_joined 22 = .ok (.getfield 26, 3) := by decide +kernel
theorem dX12_joined_25 : decode cX12_joined 25 = .ok (.iload_n 1, 1) := by decide +kernel
theorem dX12_joined_26 : decode cX12_joined 26 = .ok (.iaload, 1) := by decide +kernel
theorem dX12_joined_27 : decode cX12_joined 27 = .ok (.aload_n 0, 1) := by decide +kernel
theorem dX12_joined_28 : decode cX12_joined 28 = .ok (.getfield 26, 3) := by decide +kernel
theorem dX12_joined_31 : decode cX12_joined 31 = .ok (.iload_n 2, 1) := by decide +kernel
theorem dX12_joined_32 : decode cX12_joined 32 = .ok (.iaload, 1) := by decide +kernel
theorem dX12_joined_33 : decode cX12_joined 33 = .ok (.if_icmp .ne 8, 3) := by decide +kernel
theorem dX12_joined_36 : decode cX12_joined 36 = .ok (.iload_n 1, 1) := by decide +kernel
theorem dX12_joined_37 : decode cX12_joined 37 = .ok (.iload_n 2, 1) := by decide +kernel
theorem dX12_joined_38 : decode cX12_joined 38 = .ok (.if_icmp .ne 5, 3) := by decide +kernel
theorem dX12_joined_41 : decode cX12_joined 41 = .ok (.iconst (-1), 1) := by decide +kernel
theorem dX12_joined_42 : decode cX12_joined 42 = .ok (.ireturn, 1) := by decide +kernel
theorem dX12_joined_43 : decode cX12_joined 43 = .ok (.aload_n 0, 1) := by decide +kernel
theorem dX12_joined_44 : decode cX12_joined 44 = .ok (.getfield 108, 3) := by decide +kernel
theorem dX12_joined_47 : decode cX12_joined 47 = .ok (.iconst 0, 1) := by decide +kernel
theorem dX12_joined_48 : decode cX12_joined 48 = .ok (.aload_n 0, 1) := by decide +kernel
theorem dX12_joined_49 : decode cX12_joined 49 = .ok (.getfield 114, 3) := by decide +kernel
theorem dX12_joined_52 : decode cX12_joined 52 = .ok (.iconst 0, 1) := by decide +kernel
theorem dX12_joined_53 : decode cX12_joined 53 = .ok (.invokestatic 401, 3) := by decide +kernel
theorem dX12_joined_56 : decode cX12_joined 56 = .ok (.iconst 0, 1) := by decide +kernel
theorem dX12_joined_57 : decode cX12_joined 57 = .ok (.istore_n 3, 1) := by decide +kernel
theorem dX12_joined_58 : decode cX12_joined 58 = .ok (.iload_n 3, 1) := by decide +kernel
theorem dX12_joined_59 : decode cX12_joined 59 = .ok (.bipush 60, 2) := by decide +kernel
theorem dX12_joined_61 : decode cX12_joined 61 = .ok (.if_icmp .gt 23, 3) := by decide +kernel
theorem dX12_joined_64 : decode cX12_joined 64 = .ok (.aload_n 0, 1) := by decide +kernel
theorem dX12_joined_65 : decode cX12_joined 65 = .ok (.iload_n 1, 1) := by decide +kernel
theorem dX12_joined_66 : decode cX12_joined 66 = .ok (.iload_n 2, 1) := by decide +kernel
theorem dX12_joined_67 : decode cX12_joined 67 = .ok (.invokevirtual 408, 3) := by decide +kernel
theorem dX12_joined_70 : decode cX12_joined 70 = .ok (.ifCond .ne 14, 3) := by decide +kernel
theorem dX12_joined_73 : decode cX12_joined 73 = .ok (.aload_n 0, 1) := by decide +kernel
theorem dX12_joined_74 : decode cX12_joined 74 = .ok (.invokevirtual 421, 3) := by decide +kernel
theorem dX12_joined_77 : decode cX12_joined 77 = .ok (.pop, 1) := by decide +kernel
theorem dX12_joined_78 : decode cX12_joined 78 = .ok (.iinc 3 1, 3) := by decide +kernel
theorem dX12_joined_81 : decode cX12_joined 81 = .ok (.goto (-23), 3) := by decide +kernel
theorem dX12_joined_84 : decode cX12_joined 84 = .ok (.aload_n 0, 1) := by decide +kernel
theorem dX12_joined_85 : decode cX12_joined 85 = .ok (.getfield 114, 3) := by decide +kernel
theorem dX12_joined_88 : decode cX12_joined 88 = .ok (.iconst 0, 1) := by decide +kernel
theorem dX12_joined_89 : decode cX12_joined 89 = .ok (.aload_n 0, 1) := by decide +kernel
theorem dX12_joined_90 : decode cX12_joined 90 = .ok (.getfield 108, 3) := by decide +kernel
theorem dX12_joined_93 : decode cX12_joined 93 = .ok (.iconst 0, 1) := by decide +kernel
theorem dX12_joined_94 : decode cX12_joined 94 = .ok (.invokestatic 401, 3) := by decide +kernel
theorem dX12_joined_97 : decode cX12_joined 97 = .ok (.iload_n 3, 1) := by decide +kernel
theorem dX12_joined_98 : decode cX12_joined 98 = .ok (.bipush 60, 2) := by decide +kernel
theorem dX12_joined_100 : decode cX12_joined 100 = .ok (.if_icmp .le 7, 3) := by decide +kernel
theorem dX12_joined_103 : decode cX12_joined 103 = .ok (.iconst (-1), 1) := by decide +kernel
theorem dX12_joined_104 : decode cX12_joined 104 = .ok (.goto 4, 3) := by decide +kernel
theorem dX12_joined_107 : decode cX12_joined 107 = .ok (.iload_n 3, 1) := by decide +kernel
theorem dX12_joined_108 : decode cX12_joined 108 = .ok (.ireturn, 1) := by decide +kernel
theorem dX12_fines_0 : decode cX12_fines 0 = .ok (.aload_n 0, 1) := by decide +kernel
theorem dX12_fines_1 : decode cX12_fines 1 = .ok (.iconst 0, 1) := by decide +kernel
theorem dX12_fines_2 : decode cX12_fines 2 = .ok (.putfield 133, 3) := by decide +kernel
theorem dX12_fines_5 : decode cX12_fines 5 = .ok (.iload_n 1, 1) := by decide +kernel
theorem dX12_fines_6 : decode cX12_fines 6 = .ok (.iconst 1, 1) := by decide +kernel
theorem dX12_fines_7 : decode cX12_fines 7 = .ok (.bipush 60, 2) := by decide +kernel
theorem dX12_fines_9 : decode cX12_fines 9 = .ok (.invokestatic 253, 3) := by decide +kernel
theorem dX12_fines_12 : decode cX12_fines 12 = .ok (.ifCond .ne 5, 3) := by decide +kernel
theorem dX12_fines_15 : decode cX12_fines 15 = .ok (.iconst (-1), 1) := by decide +kernel
theorem dX12_fines_16 : decode cX12_fines 16 = .ok (.ireturn, 1) := by decide +kernel
theorem dX12_fines_17 : decode cX12_fines 17 = .ok (.aload_n 0, 1) := by decide +kernel
theorem dX12_fines_18 : decode cX12_fines 18 = .ok (.getfield 108, 3) := by decide +kernel
theorem dX12_fines_21 : decode cX12_fines 21 = .ok (.iconst 0, 1) := by decide +kernel
theorem dX12_fines_22 : decode cX12_fines 22 = .ok (.aload_n 0, 1) := by decide +kernel
theorem dX12_fines_23 : decode cX12_fines 23 = .ok (.getfield 114, 3) := by decide +kernel
theorem dX12_fines_26 : decode cX12_fines 26 = .ok (.iconst 0, 1) := by decide +kernel
theorem dX12_fines_27 : decode cX12_fines 27 = .ok (.invokestatic 401, 3) := by decide +kernel
theorem dX12_fines_30 : decode cX12_fines 30 = .ok (.iconst 0, 1) := by decide +kernel
theorem dX12_fines_31 : decode cX12_fines 31 = .ok (.istore_n 2, 1) := by decide +kernel
theorem dX12_fines_32 : decode cX12_fines 32 = .ok (.iconst 0, 1) := by decide +kernel
theorem dX12_fines_33 : decode cX12_fines 33 = .ok (.istore_n 3, 1) := by decide +kernel
theorem dX12_fines_34 : decode cX12_fines 34 = .ok (.iload_n 3, 1) := by decide +kernel
theorem dX12_fines_35 : decode cX12_fines 35 = .ok (.iload_n 1, 1) := by decide +kernel
theorem dX12_fines_36 : decode cX12_fines 36 = .ok (.if_icmp .ge 16, 3) := by decide +kernel
theorem dX12_fines_39 : decode cX12_fines 39 = .ok (.iload_n 2, 1) := by decide +kernel
theorem dX12_fines_40 : decode cX12_fines 40 = .ok (.aload_n 0, 1) := by decide +kernel
theorem dX12_fines_41 : decode cX12_fines 41 = .ok (.invokevirtual 421, 3) := by decide +kernel
theorem dX12_fines_44 : decode cX12_fines 44 = .ok (.iadd, 1) := by decide +kernel
theorem dX12_fines_45 : decode cX12_fines 45 = .ok (.istore_n 2, 1) := by decide +kernel
theorem dX12_fines_46 : decode cX12_fines 46 = .ok (.iinc 3 1, 3) := by decide +kernel
theorem dX12_fines_49 : decode cX12_fines 49 = .ok (.goto (-15), 3) := by decide +kernel
theorem dX12_fines_52 : decode cX12_fines 52 = .ok (.aload_n 0, 1) := by decide +kernel
theorem dX12_fines_53 : decode cX12_fines 53 = .ok (.getfield 114, 3) := by decide +kernel
theorem dX12_fines_56 : decode cX12_fines 56 = .ok (.iconst 0, 1) := by decide +kernel
theorem dX12_fines_57 : decode cX12_fines 57 = .ok (.aload_n 0, 1) := by decide +kernel
theorem dX12_fines_58 : decode cX12_fines 58 = .ok (.getfield 108, 3) := by decide +kernel
theorem dX12_fines_61 : decode cX12_fines 61 = .ok (.iconst 0, 1) := by decide +kernel
theorem dX12_fines_62 : decode cX12_fines 62 = .ok (.invokestatic 401, 3) := by decide +kernel
theorem dX12_fines_65 : decode cX12_fines 65 = .ok (.iload_n 2, 1) := by decide +kernel
theorem dX12_fines_66 : decode cX12_fines 66 = .ok (.ireturn, 1) := by decide +kernel
theorem dX12_round_0 : decode cX12_round 0 = .ok (.aload_n 0, 1) := by decide +kernel
theorem dX12_round_1 : decode cX12_round 1 = .ok (.iconst 0, 1) := by decide +kernel
theorem dX12_round_2 : decode cX12_round 2 = .ok (.putfield 133, 3) := by decide +kernel
theorem dX12_round_5 : decode cX12_round 5 = .ok (.iconst 0, 1) := by decide +kernel
theorem dX12_round_6 : decode cX12_round 6 = .ok (.istore_n 1, 1) := by decide +kernel
theorem dX12_round_7 : decode cX12_round 7 = .ok (.iconst 0, 1) := by decide +kernel
theorem dX12_round_8 : decode cX12_round 8 = .ok (.istore_n 2, 1) := by decide +kernel
theorem dX12_round_9 : decode cX12_round 9 = .ok (.iload_n 2, 1) := by decide +kernel
theorem dX12_round_10 : decode cX12_round 10 = .ok (.aload_n 0, 1) := by decide +kernel
theorem dX12_round_11 : decode cX12_round 11 = .ok (.getfield 13, 3) := by decide +kernel
theorem dX12_round_14 : decode cX12_round 14 = .ok (.iconst 0, 1) := by decide +kernel
theorem dX12_round_15 : decode cX12_round 15 = .ok (.iaload, 1) := by decide +kernel
theorem dX12_round_16 : decode cX12_round 16 = .ok (.if_icmp .ge 39, 3) := by decide +kernel
theorem dX12_round_19 : decode cX12_round 19 = .ok (.iconst 0, 1) := by decide +kernel
theorem dX12_round_20 : decode cX12_round 20 = .ok (.istore_n 3, 1) := by decide +kernel
theorem dX12_round_21 : decode cX12_round 21 = .ok (.iload_n 3, 1) := by decide +kernel
theorem dX12_round_22 : decode cX12_round 22 = .ok (.iload_n 2, 1) := by decide +kernel
theorem dX12_round_23 : decode cX12_round 23 = .ok (.if_icmp .ge 26, 3) := by decide +kernel
theorem dX12_round_26 : decode cX12_round 26 = .ok (.iload_n 1, 1) := by decide +kernel
theorem dX12_round_27 : decode cX12_round 27 = .ok (.aload_n 0, 1) := by decide +kernel
theorem dX12_round_28 : decode cX12_round 28 = .ok (.iload_n 2, 1) := by decide +kernel
theorem dX12_round_29 : decode cX12_round 29 = .ok (.iload_n 3, 1) := by decide +kernel
theorem dX12_round_30 : decode cX12_round 30 = .ok (.invokevirtual 408, 3) := by decide +kernel
theorem dX12_round_33 : decode cX12_round 33 = .ok (.ifCond .eq 7, 3) := by decide +kernel
theorem dX12_round_36 : decode cX12_round 36 = .ok (.iconst 1, 1) := by decide +kernel
theorem dX12_round_37 : decode cX12_round 37 = .ok (.goto 4, 3) := by decide +kernel
theorem dX12_round_40 : decode cX12_round 40 = .ok (.iconst 0, 1) := by decide +kernel
theorem dX12_round_41 : decode cX12_round 41 = .ok (.iadd, 1) := by decide +kernel
theorem dX12_round_42 : decode cX12_round 42 = .ok (.istore_n 1, 1) := by decide +kernel
theorem dX12_round_43 : decode cX12_round 43 = .ok (.iinc 3 1, 3) := by decide +kernel
theorem dX12_round_46 : decode cX12_round 46 = .ok (.goto (-25), 3) := by decide +kernel
theorem dX12_round_49 : decode cX12_round 49 = .ok (.iinc 2 1, 3) := by decide +kernel
theorem dX12_round_52 : decode cX12_round 52 = .ok (.goto (-43), 3) := by decide +kernel
theorem dX12_round_55 : decode cX12_round 55 = .ok (.iload_n 1, 1) := by decide +kernel
theorem dX12_round_56 : decode cX12_round 56 = .ok (.ireturn, 1) := by decide +kernel
theorem dX12_halves_0 : decode cX12_halves 0 = .ok (.iconst 0, 1) := by decide +kernel
theorem dX12_halves_1 : decode cX12_halves 1 = .ok (.istore_n 1, 1) := by decide +kernel
theorem dX12_halves_2 : decode cX12_halves 2 = .ok (.iconst 0, 1) := by decide +kernel
theorem dX12_halves_3 : decode cX12_halves 3 = .ok (.istore_n 2, 1) := by decide +kernel
theorem dX12_halves_4 : decode cX12_halves 4 = .ok (.iload_n 2, 1) := by decide +kernel
theorem dX12_halves_5 : decode cX12_halves 5 = .ok (.aload_n 0, 1) := by decide +kernel
theorem dX12_halves_6 : decode cX12_halves 6 = .ok (.getfield 13, 3) := by decide +kernel
theorem dX12_halves_9 : decode cX12_halves 9 = .ok (.iconst 0, 1) := by decide +kernel
theorem dX12_halves_10 : decode cX12_halves 10 = .ok (.iaload, 1) := by decide +kernel
theorem dX12_halves_11 : decode cX12_halves 11 = .ok (.if_icmp .ge 27, 3) := by decide +kernel
theorem dX12_halves_14 : decode cX12_halves 14 = .ok (.iload_n 1, 1) := by decide +kernel
theorem dX12_halves_15 : decode cX12_halves 15 = .ok (.aload_n 0, 1) := by decide +kernel
theorem dX12_halves_16 : decode cX12_halves 16 = .ok (.iload_n 2, 1) := by decide +kernel
theorem dX12_halves_17 : decode cX12_halves 17 = .ok (.invokevirtual 386, 3) := by decide +kernel
theorem dX12_halves_20 : decode cX12_halves 20 = .ok (.ifCond .eq 9, 3) := by decide +kernel
theorem dX12_halves_23 : decode cX12_halves 23 = .ok (.iconst 1, 1) := by decide +kernel
theorem dX12_halves_24 : decode cX12_halves 24 = .ok (.iload_n 2, 1) := by decide +kernel
theorem dX12_halves_25 : decode cX12_halves 25 = .ok (.ishl, 1) := by decide +kernel
theorem dX12_halves_26 : decode cX12_halves 26 = .ok (.goto 4, 3) := by decide +kernel
theorem dX12_halves_29 : decode cX12_halves 29 = .ok (.iconst 0, 1) := by decide +kernel
theorem dX12_halves_30 : decode cX12_halves 30 = .ok (.ior, 1) := by decide +kernel
theorem dX12_halves_31 : decode cX12_halves 31 = .ok (.istore_n 1, 1) := by decide +kernel
theorem dX12_halves_32 : decode cX12_halves 32 = .ok (.iinc 2 1, 3) := by decide +kernel
theorem dX12_halves_35 : decode cX12_halves 35 = .ok (.goto (-31), 3) := by decide +kernel
theorem dX12_halves_38 : decode cX12_halves 38 = .ok (.iload_n 1, 1) := by decide +kernel
theorem dX12_halves_39 : decode cX12_halves 39 = .ok (.ireturn, 1) := by decide +kernel
theorem dX12_lackOf_0 : decode cX12_lackOf 0 = .ok (.iconst 0, 1) := by decide +kernel
theorem dX12_lackOf_1 : decode cX12_lackOf 1 = .ok (.istore_n 2, 1) := by decide +kernel
theorem dX12_lackOf_2 : decode cX12_lackOf 2 = .ok (.iconst 0, 1) := by decide +kernel
theorem dX12_lackOf_3 : decode cX12_lackOf 3 = .ok (.istore_n 3, 1) := by decide +kernel
theorem dX12_lackOf_4 : decode cX12_lackOf 4 = .ok (.iload_n 3, 1) := by decide +kernel
theorem dX12_lackOf_5 : decode cX12_lackOf 5 = .ok (.aload_n 0, 1) := by decide +kernel
theorem dX12_lackOf_6 : decode cX12_lackOf 6 = .ok (.getfield 13, 3) := by decide +kernel
theorem dX12_lackOf_9 : decode cX12_lackOf 9 = .ok (.iconst 0, 1) := by decide +kernel
theorem dX12_lackOf_10 : decode cX12_lackOf 10 = .ok (.iaload, 1) := by decide +kernel
theorem dX12_lackOf_11 : decode cX12_lackOf 11 = .ok (.if_icmp .ge 39, 3) := by decide +kernel
theorem dX12_lackOf_14 : decode cX12_lackOf 14 = .ok (.iload_n 2, 1) := by decide +kernel
theorem dX12_lackOf_15 : decode cX12_lackOf 15 = .ok (.iload_n 1, 1) := by decide +kernel
theorem dX12_lackOf_16 : decode cX12_lackOf 16 = .ok (.iload_n 3, 1) := by decide +kernel
theorem dX12_lackOf_17 : decode cX12_lackOf 17 = .ok (.ishr, 1) := by decide +kernel
theorem dX12_lackOf_18 : decode cX12_lackOf 18 = .ok (.iconst 1, 1) := by decide +kernel
theorem dX12_lackOf_19 : decode cX12_lackOf 19 = .ok (.iand, 1) := by decide +kernel
theorem dX12_lackOf_20 : decode cX12_lackOf 20 = .ok (.iconst 1, 1) := by decide +kernel
theorem dX12_lackOf_21 : decode cX12_lackOf 21 = .ok (.if_icmp .ne 20, 3) := by decide +kernel
theorem dX12_lackOf_24 : decode cX12_lackOf 24 = .ok (.aload_n 0, 1) := by decide +kernel
theorem dX12_lackOf_25 : decode cX12_lackOf 25 = .ok (.iload_n 3, 1) := by decide +kernel
theorem dX12_lackOf_26 : decode cX12_lackOf 26 = .ok (.invokevirtual 351, 3) := by decide +kernel
theorem dX12_lackOf_29 : decode cX12_lackOf 29 = .ok (.aload_n 0, 1) := by decide +kernel
theorem dX12_lackOf_30 : decode cX12_lackOf 30 = .ok (.getfield 108, 3) := by decide +kernel
theorem dX12_lackOf_33 : decode cX12_lackOf 33 = .ok (.iconst 3, 1) := by decide +kernel
theorem dX12_lackOf_34 : decode cX12_lackOf 34 = .ok (.iload_n 3, 1) := by decide +kernel
theorem dX12_lackOf_35 : decode cX12_lackOf 35 = .ok (.iadd, 1) := by decide +kernel
theorem dX12_lackOf_36 : decode cX12_lackOf 36 = .ok (.iaload, 1) := by decide +kernel
theorem dX12_lackOf_37 : decode cX12_lackOf 37 = .ok (.isub, 1) := by decide +kernel
theorem dX12_lackOf_38 : decode cX12_lackOf 38 = .ok (.goto 4, 3) := by decide +kernel
theorem dX12_lackOf_41 : decode cX12_lackOf 41 = .ok (.iconst 0, 1) := by decide +kernel
theorem dX12_lackOf_42 : decode cX12_lackOf 42 = .ok (.iadd, 1) := by decide +kernel
theorem dX12_lackOf_43 : decode cX12_lackOf 43 = .ok (.istore_n 2, 1) := by decide +kernel
theorem dX12_lackOf_44 : decode cX12_lackOf 44 = .ok (.iinc 3 1, 3) := by decide +kernel
theorem dX12_lackOf_47 : decode cX12_lackOf 47 = .ok (.goto (-43), 3) := by decide +kernel
theorem dX12_lackOf_50 : decode cX12_lackOf 50 = .ok (.iload_n 2, 1) := by decide +kernel
theorem dX12_lackOf_51 : decode cX12_lackOf 51 = .ok (.ireturn, 1) := by decide +kernel
theorem dX12_most_0 : decode cX12_most 0 = .ok (.aload_n 0, 1) := by decide +kernel
theorem dX12_most_1 : decode cX12_most 1 = .ok (.iconst 0, 1) := by decide +kernel
theorem dX12_most_2 : decode cX12_most 2 = .ok (.putfield 133, 3) := by decide +kernel
theorem dX12_most_5 : decode cX12_most 5 = .ok (.iload_n 1, 1) := by decide +kernel
theorem dX12_most_6 : decode cX12_most 6 = .ok (.iconst 0, 1) := by decide +kernel
theorem dX12_most_7 : decode cX12_most 7 = .ok (.sipush 200, 3) := by decide +kernel
theorem dX12_most_10 : decode cX12_most 10 = .ok (.invokestatic 253, 3) := by decide +kernel
theorem dX12_most_13 : decode cX12_most 13 = .ok (.ifCond .eq 12, 3) := by decide +kernel
theorem dX12_most_16 : decode cX12_most 16 = .ok (.iload_n 2, 1) := by decide +kernel
theorem dX12_most_17 : decode cX12_most 17 = .ok (.iconst 0, 1) := by decide +kernel
theorem dX12_most_18 : decode cX12_most 18 = .ok (.iconst 2, 1) := by decide +kernel
theorem dX12_most_19 : decode cX12_most 19 = .ok (.invokestatic 253, 3) := by decide +kernel
theorem dX12_most_22 : decode cX12_most 22 = .ok (.ifCond .ne 5, 3) := by decide +kernel
theorem dX12_most_25 : decode cX12_most 25 = .ok (.iconst (-1), 1) := by decide +kernel
theorem dX12_most_26 : decode cX12_most 26 = .ok (.ireturn, 1) := by decide +kernel
theorem dX12_most_27 : decode cX12_most 27 = .ok (.aload_n 0, 1) := by decide +kernel
theorem dX12_most_28 : decode cX12_most 28 = .ok (.invokevirtual 427, 3) := by decide +kernel
theorem dX12_most_31 : decode cX12_most 31 = .ok (.istore_n 3, 1) := by decide +kernel
theorem dX12_most_32 : decode cX12_most 32 = .ok (.iload_n 3, 1) := by decide +kernel
theorem dX12_most_33 : decode cX12_most 33 = .ok (.istore 4, 2) := by decide +kernel
theorem dX12_most_35 : decode cX12_most 35 = .ok (.iconst 0, 1) := by decide +kernel
theorem dX12_most_36 : decode cX12_most 36 = .ok (.istore 5, 2) := by decide +kernel
theorem dX12_most_38 : decode cX12_most 38 = .ok (.iload 5, 2) := by decide +kernel
theorem dX12_most_40 : decode cX12_most 40 = .ok (.iconst 1, 1) := by decide +kernel
theorem dX12_most_41 : decode cX12_most 41 = .ok (.aload_n 0, 1) := by decide +kernel
theorem dX12_most_42 : decode cX12_most 42 = .ok (.getfield 13, 3) := by decide +kernel
theorem dX12_most_45 : decode cX12_most 45 = .ok (.iconst 0, 1) := by decide +kernel
theorem dX12_most_46 : decode cX12_most 46 = .ok (.iaload, 1) := by decide +kernel
theorem dX12_most_47 : decode cX12_most 47 = .ok (.ishl, 1) := by decide +kernel
theorem dX12_most_48 : decode cX12_most 48 = .ok (.if_icmp .ge 75, 3) := by decide +kernel
theorem dX12_most_51 : decode cX12_most 51 = .ok (.iload 5, 2) := by decide +kernel
theorem dX12_most_53 : decode cX12_most 53 = .ok (.iload_n 3, 1) := by decide +kernel
theorem dX12_most_54 : decode cX12_most 54 = .ok (.iand, 1) := by decide +kernel
theorem dX12_most_55 : decode cX12_most 55 = .ok (.iload_n 3, 1) := by decide +kernel
theorem dX12_most_56 : decode cX12_most 56 = .ok (.if_icmp .ne 61, 3) := by decide +kernel
theorem dX12_most_59 : decode cX12_most 59 = .ok (.aload_n 0, 1) := by decide +kernel
theorem dX12_most_60 : decode cX12_most 60 = .ok (.iload 5, 2) := by decide +kernel
theorem dX12_most_62 : decode cX12_most 62 = .ok (.invokevirtual 430, 3) := by decide +kernel
theorem dX12_most_65 : decode cX12_most 65 = .ok (.iload_n 1, 1) := by decide +kernel
theorem dX12_most_66 : decode cX12_most 66 = .ok (.if_icmp .gt 51, 3) := by decide +kernel
theorem dX12_most_69 : decode cX12_most 69 = .ok (.iload 5, 2) := by decide +kernel
theorem dX12_most_71 : decode cX12_most 71 = .ok (.invokestatic 433, 3) := by decide +kernel
theorem dX12_most_74 : decode cX12_most 74 = .ok (.iload 4, 2) := by decide +kernel
theorem dX12_most_76 : decode cX12_most 76 = .ok (.invokestatic 433, 3) := by decide +kernel
theorem dX12_most_79 : decode cX12_most 79 = .ok (.if_icmp .ge 6, 3) := by decide +kernel
theorem dX12_most_82 : decode cX12_most 82 = .ok (.goto 35, 3) := by decide +kernel
theorem dX12_most_85 : decode cX12_most 85 = .ok (.iload 5, 2) := by decide +kernel
theorem dX12_most_87 : decode cX12_most 87 = .ok (.invokestatic 433, 3) := by decide +kernel
theorem dX12_most_90 : decode cX12_most 90 = .ok (.iload 4, 2) := by decide +kernel
theorem dX12_most_92 : decode cX12_most 92 = .ok (.invokestatic 433, 3) := by decide +kernel
theorem dX12_most_95 : decode cX12_most 95 = .ok (.if_icmp .gt 18, 3) := by decide +kernel
theorem dX12_most_98 : decode cX12_most 98 = .ok (.aload_n 0, 1) := by decide +kernel
theorem dX12_most_99 : decode cX12_most 99 = .ok (.iload 5, 2) := by decide +kernel
theorem dX12_most_101 : decode cX12_most 101 = .ok (.invokevirtual 430, 3) := by decide +kernel
theorem dX12_most_104 : decode cX12_most 104 = .ok (.aload_n 0, 1) := by decide +kernel
theorem dX12_most_105 : decode cX12_most 105 = .ok (.iload 4, 2) := by decide +kernel
theorem dX12_most_107 : decode cX12_most 107 = .ok (.invokevirtual 430, 3) := by decide +kernel
theorem dX12_most_110 : decode cX12_most 110 = .ok (.if_icmp .ge 7, 3) := by decide +kernel
theorem dX12_most_113 : decode cX12_most 113 = .ok (.iload 5, 2) := by decide +kernel
theorem dX12_most_115 : decode cX12_most 115 = .ok (.istore 4, 2) := by decide +kernel
theorem dX12_most_117 : decode cX12_most 117 = .ok (.iinc 5 1, 3) := by decide +kernel
theorem dX12_most_120 : decode cX12_most 120 = .ok (.goto (-82), 3) := by decide +kernel
theorem dX12_most_123 : decode cX12_most 123 = .ok (.iload_n 2, 1) := by decide +kernel
theorem dX12_most_124 : decode cX12_most 124 = .ok (.ifCond .ne 11, 3) := by decide +kernel
theorem dX12_most_127 : decode cX12_most 127 = .ok (.iload 4, 2) := by decide +kernel
theorem dX12_most_129 : decode cX12_most 129 = .ok (.invokestatic 433, 3) := by decide +kernel
theorem dX12_most_132 : decode cX12_most 132 = .ok (.goto 19, 3) := by decide +kernel
theorem dX12_most_135 : decode cX12_most 135 = .ok (.iload_n 2, 1) := by decide +kernel
theorem dX12_most_136 : decode cX12_most 136 = .ok (.iconst 1, 1) := by decide +kernel
theorem dX12_most_137 : decode cX12_most 137 = .ok (.if_icmp .ne 12, 3) := by decide +kernel
theorem dX12_most_140 : decode cX12_most 140 = .ok (.aload_n 0, 1) := by decide +kernel
theorem dX12_most_141 : decode cX12_most 141 = .ok (.iload 4, 2) := by decide +kernel
theorem dX12_most_143 : decode cX12_most 143 = .ok (.invokevirtual 430, 3) := by decide +kernel
theorem dX12_most_146 : decode cX12_most 146 = .ok (.goto 5, 3) := by decide +kernel
theorem dX12_most_149 : decode cX12_most 149 = .ok (.iload 4, 2) := by decide +kernel
theorem dX12_most_151 : decode cX12_most 151 = .ok (.ireturn, 1) := by decide +kernel
theorem dX12_ways_0 : decode cX12_ways 0 = .ok (.aload_n 0, 1) := by decide +kernel
theorem dX12_ways_1 : decode cX12_ways 1 = .ok (.iconst 0, 1) := by decide +kernel
theorem dX12_ways_2 : decode cX12_ways 2 = .ok (.putfield 133, 3) := by decide +kernel
theorem dX12_ways_5 : decode cX12_ways 5 = .ok (.iload_n 1, 1) := by decide +kernel
theorem dX12_ways_6 : decode cX12_ways 6 = .ok (.iconst 0, 1) := by decide +kernel
theorem dX12_ways_7 : decode cX12_ways 7 = .ok (.sipush 200, 3) := by decide +kernel
theorem dX12_ways_10 : decode cX12_ways 10 = .ok (.invokestatic 253, 3) := by decide +kernel
theorem dX12_ways_13 : decode cX12_ways 13 = .ok (.ifCond .ne 5, 3) := by decide +kernel
theorem dX12_ways_16 : decode cX12_ways 16 = .ok (.iconst (-1), 1) := by decide +kernel
theorem dX12_ways_17 : decode cX12_ways 17 = .ok (.ireturn, 1) := by decide +kernel
theorem dX12_ways_18 : decode cX12_ways 18 = .ok (.iconst 0, 1) := by decide +kernel
theorem dX12_ways_19 : decode cX12_ways 19 = .ok (.istore_n 2, 1) := by decide +kernel
theorem dX12_ways_20 : decode cX12_ways 20 = .ok (.iconst 0, 1) := by decide +kernel
theorem dX12_ways_21 : decode cX12_ways 21 = .ok (.istore_n 3, 1) := by decide +kernel
theorem dX12_ways_22 : decode cX12_ways 22 = .ok (.iload_n 3, 1) := by decide +kernel
theorem dX12_ways_23 : decode cX12_ways 23 = .ok (.iconst 1, 1) := by decide +kernel
theorem dX12_ways_24 : decode cX12_ways 24 = .ok (.aload_n 0, 1) := by decide +kernel
theorem dX12_ways_25 : decode cX12_ways 25 = .ok (.getfield 13, 3) := by decide +kernel
theorem dX12_ways_28 : decode cX12_ways 28 = .ok (.iconst 1, 1) := by decide +kernel
theorem dX12_ways_29 : decode cX12_ways 29 = .ok (.iaload, 1) := by decide +kernel
theorem dX12_ways_30 : decode cX12_ways 30 = .ok (.ishl, 1) := by decide +kernel
theorem dX12_ways_31 : decode cX12_ways 31 = .ok (.if_icmp .ge 26, 3) := by decide +kernel
theorem dX12_ways_34 : decode cX12_ways 34 = .ok (.iload_n 2, 1) := by decide +kernel
theorem dX12_ways_35 : decode cX12_ways 35 = .ok (.aload_n 0, 1) := by decide +kernel
theorem dX12_ways_36 : decode cX12_ways 36 = .ok (.iload_n 3, 1) := by decide +kernel
theorem dX12_ways_37 : decode cX12_ways 37 = .ok (.invokevirtual 354, 3) := by decide +kernel
theorem dX12_ways_40 : decode cX12_ways 40 = .ok (.iload_n 1, 1) := by decide +kernel
theorem dX12_ways_41 : decode cX12_ways 41 = .ok (.if_icmp .ne 7, 3) := by decide +kernel
theorem dX12_ways_44 : decode cX12_ways 44 = .ok (.iconst 1, 1) := by decide +kernel
theorem dX12_ways_45 : decode cX12_ways 45 = .ok (.goto 4, 3) := by decide +kernel
theorem dX12_ways_48 : decode cX12_ways 48 = .ok (.iconst 0, 1) := by decide +kernel
theorem dX12_ways_49 : decode cX12_ways 49 = .ok (.iadd, 1) := by decide +kernel
theorem dX12_ways_50 : decode cX12_ways 50 = .ok (.istore_n 2, 1) := by decide +kernel
theorem dX12_ways_51 : decode cX12_ways 51 = .ok (.iinc 3 1, 3) := by decide +kernel
theorem dX12_ways_54 : decode cX12_ways 54 = .ok (.goto (-32), 3) := by decide +kernel
theorem dX12_ways_57 : decode cX12_ways 57 = .ok (.iload_n 2, 1) := by decide +kernel
theorem dX12_ways_58 : decode cX12_ways 58 = .ok (.ireturn, 1) := by decide +kernel
theorem dX12_isMore_0 : decode cX12_isMore 0 = .ok (.iconst 2, 1) := by decide +kernel
theorem dX12_isMore_1 : decode cX12_isMore 1 = .ok (.aload_n 0, 1) := by decide +kernel
theorem dX12_isMore_2 : decode cX12_isMore 2 = .ok (.iload_n 1, 1) := by decide +kernel
theorem dX12_isMore_3 : decode cX12_isMore 3 = .ok (.invokevirtual 354, 3) := by decide +kernel
theorem dX12_isMore_6 : decode cX12_isMore 6 = .ok (.imul, 1) := by decide +kernel
theorem dX12_isMore_7 : decode cX12_isMore 7 = .ok (.aload_n 0, 1) := by decide +kernel
theorem dX12_isMore_8 : decode cX12_isMore 8 = .ok (.invokevirtual 389, 3) := by decide +kernel
theorem dX12_isMore_11 : decode cX12_isMore 11 = .ok (.if_icmp .le 7, 3) := by decide +kernel
theorem dX12_isMore_14 : decode cX12_isMore 14 = .ok (.iconst 1, 1) := by decide +kernel
theorem dX12_isMore_15 : decode cX12_isMore 15 = .ok (.goto 4, 3) := by decide +kernel
theorem dX12_isMore_18 : decode cX12_isMore 18 = .ok (.iconst 0, 1) := by decide +kernel
theorem dX12_isMore_19 : decode cX12_isMore 19 = .ok (.ireturn, 1) := by decide +kernel
theorem dX12_pivotsOf_0 : decode cX12_pivotsOf 0 = .ok (.iconst 0, 1) := by decide +kernel
theorem dX12_pivotsOf_1 : decode cX12_pivotsOf 1 = .ok (.istore_n 2, 1) := by decide +kernel
theorem dX12_pivotsOf_2 : decode cX12_pivotsOf 2 = .ok (.iconst 0, 1) := by decide +kernel
theorem dX12_pivotsOf_3 : decode cX12_pivotsOf 3 = .ok (.istore_n 3, 1) := by decide +kernel
theorem dX12_pivotsOf_4 : decode cX12_pivotsOf 4 = .ok (.iload_n 3, 1) := by decide +kernel
theorem dX12_pivotsOf_5 : decode cX12_pivotsOf 5 = .ok (.iconst 1, 1) := by decide +kernel
theorem dX12_pivotsOf_6 : decode cX12_pivotsOf 6 = .ok (.aload_n 0, 1) := by decide +kernel
theorem dX12_pivotsOf_7 : decode cX12_pivotsOf 7 = .ok (.getfield 13, 3) := by decide +kernel
theorem dX12_pivotsOf_10 : decode cX12_pivotsOf 10 = .ok (.iconst 1, 1) := by decide +kernel
theorem dX12_pivotsOf_11 : decode cX12_pivotsOf 11 = .ok (.iaload, 1) := by decide +kernel
theorem dX12_pivotsOf_12 : decode cX12_pivotsOf 12 = .ok (.ishl, 1) := by decide +kernel
theorem dX12_pivotsOf_13 : decode cX12_pivotsOf 13 = .ok (.if_icmp .ge 45, 3) := by decide +kernel
theorem dX12_pivotsOf_16 : decode cX12_pivotsOf 16 = .ok (.iload_n 2, 1) := by decide +kernel
theorem dX12_pivotsOf_17 : decode cX12_pivotsOf 17 = .ok (.iload_n 3, 1) := by decide +kernel
theorem dX12_pivotsOf_18 : decode cX12_pivotsOf 18 = .ok (.iload_n 1, 1) := by decide +kernel
theorem dX12_pivotsOf_19 : decode cX12_pivotsOf 19 = .ok (.ishr, 1) := by decide +kernel
theorem dX12_pivotsOf_20 : decode cX12_pivotsOf 20 = .ok (.iconst 1, 1) := by decide +kernel
theorem dX12_pivotsOf_21 : decode cX12_pivotsOf 21 = .ok (.iand, 1) := by decide +kernel
theorem dX12_pivotsOf_22 : decode cX12_pivotsOf 22 = .ok (.ifCond .ne 27, 3) := by decide +kernel
theorem dX12_pivotsOf_25 : decode cX12_pivotsOf 25 = .ok (.aload_n 0, 1) := by decide +kernel
theorem dX12_pivotsOf_26 : decode cX12_pivotsOf 26 = .ok (.iload_n 3, 1) := by decide +kernel
theorem dX12_pivotsOf_27 : decode cX12_pivotsOf 27 = .ok (.invokevirtual 436, 3) := by decide +kernel
theorem dX12_pivotsOf_30 : decode cX12_pivotsOf 30 = .ok (.ifCond .ne 19, 3) := by decide +kernel
theorem dX12_pivotsOf_33 : decode cX12_pivotsOf 33 = .ok (.aload_n 0, 1) := by decide +kernel
theorem dX12_pivotsOf_34 : decode cX12_pivotsOf 34 = .ok (.iload_n 3, 1) := by decide +kernel
theorem dX12_pivotsOf_35 : decode cX12_pivotsOf 35 = .ok (.iconst 1, 1) := by decide +kernel
theorem dX12_pivotsOf_36 : decode cX12_pivotsOf 36 = .ok (.iload_n 1, 1) := by decide +kernel
theorem dX12_pivotsOf_37 : decode cX12_pivotsOf 37 = .ok (.ishl, 1) := by decide +kernel
theorem dX12_pivotsOf_38 : decode cX12_pivotsOf 38 = .ok (.ior, 1) := by decide +kernel
theorem dX12_pivotsOf_39 : decode cX12_pivotsOf 39 = .ok (.invokevirtual 436, 3) := by decide +kernel
theorem dX12_pivotsOf_42 : decode cX12_pivotsOf 42 = .ok (.ifCond .eq 7, 3) := by decide +kernel
theorem dX12_pivotsOf_45 : decode cX12_pivotsOf 45 = .ok (.iconst 1, 1) := by decide +kernel
theorem dX12_pivotsOf_46 : decode cX12_pivotsOf 46 = .ok (.goto 4, 3) := by decide +kernel
theorem dX12_pivotsOf_49 : decode cX12_pivotsOf 49 = .ok (.iconst 0, 1) := by decide +kernel
theorem dX12_pivotsOf_50 : decode cX12_pivotsOf 50 = .ok (.iadd, 1) := by decide +kernel
theorem dX12_pivotsOf_51 : decode cX12_pivotsOf 51 = .ok (.istore_n 2, 1) := by decide +kernel
theorem dX12_pivotsOf_52 : decode cX12_pivotsOf 52 = .ok (.iinc 3 1, 3) := by decide +kernel
theorem dX12_pivotsOf_55 : decode cX12_pivotsOf 55 = .ok (.goto (-51), 3) := by decide +kernel
theorem dX12_pivotsOf_58 : decode cX12_pivotsOf 58 = .ok (.iload_n 2, 1) := by decide +kernel
theorem dX12_pivotsOf_59 : decode cX12_pivotsOf 59 = .ok (.ireturn, 1) := by decide +kernel
theorem dX12_pivot_0 : decode cX12_pivot 0 = .ok (.aload_n 0, 1) := by decide +kernel
theorem dX12_pivot_1 : decode cX12_pivot 1 = .ok (.iconst 0, 1) := by decide +kernel
theorem dX12_pivot_2 : decode cX12_pivot 2 = .ok (.putfield 133, 3) := by decide +kernel
theorem dX12_pivot_5 : decode cX12_pivot 5 = .ok (.aload_n 0, 1) := by decide +kernel
theorem dX12_pivot_6 : decode cX12_pivot 6 = .ok (.iload_n 1, 1) := by decide +kernel
theorem dX12_pivot_7 : decode cX12_pivot 7 = .ok (.invokevirtual 398, 3) := by decide +kernel
theorem dX12_pivot_10 : decode cX12_pivot 10 = .ok (.ifCond .eq 11, 3) := by decide +kernel
theorem dX12_pivot_13 : decode cX12_pivot 13 = .ok (.aload_n 0, 1) := by decide +kernel
theorem dX12_pivot_14 : decode cX12_pivot 14 = .ok (.iload_n 1, 1) := by decide +kernel
theorem dX12_pivot_15 : decode cX12_pivot 15 = .ok (.invokevirtual 439, 3) := by decide +kernel
theorem dX12_pivot_18 : decode cX12_pivot 18 = .ok (.goto 4, 3) := by decide +kernel
theorem dX12_pivot_21 : decode cX12_pivot 21 = .ok (.iconst (-1), 1) := by decide +kernel
theorem dX12_pivot_22 : decode cX12_pivot 22 = .ok (.ireturn, 1) := by decide +kernel
theorem dX12_power_0 : decode cX12_power 0 = .ok (.aload_n 0, 1) := by decide +kernel
theorem dX12_power_1 : decode cX12_power 1 = .ok (.iconst 0, 1) := by decide +kernel
theorem dX12_power_2 : decode cX12_power 2 = .ok (.putfield 133, 3) := by decide +kernel
theorem dX12_power_5 : decode cX12_power 5 = .ok (.aload_n 0, 1) := by decide +kernel
theorem dX12_power_6 : decode cX12_power 6 = .ok (.iload_n 1, 1) := by decide +kernel
theorem dX12_power_7 : decode cX12_power 7 = .ok (.invokevirtual 398, 3) := by decide +kernel
theorem dX12_power_10 : decode cX12_power 10 = .ok (.ifCond .ne 5, 3) := by decide +kernel
theorem dX12_power_13 : decode cX12_power 13 = .ok (.iconst (-1), 1) := by decide +kernel
theorem dX12_power_14 : decode cX12_power 14 = .ok (.ireturn, 1) := by decide +kernel
theorem dX12_power_15 : decode cX12_power 15 = .ok (.iconst 0, 1) := by decide +kernel
theorem dX12_power_16 : decode cX12_power 16 = .ok (.istore_n 2, 1) := by decide +kernel
theorem dX12_power_17 : decode cX12_power 17 = .ok (.iconst 0, 1) := by decide +kernel
theorem dX12_power_18 : decode cX12_power 18 = .ok (.istore_n 3, 1) := by decide +kernel
theorem dX12_power_19 : decode cX12_power 19 = .ok (.iload_n 3, 1) := by decide +kernel
theorem dX12_power_20 : decode cX12_power 20 = .ok (.aload_n 0, 1) := by decide +kernel
theorem dX12_power_21 : decode cX12_power 21 = .ok (.getfield 13, 3) := by decide +kernel
theorem dX12_power_24 : decode cX12_power 24 = .ok (.iconst 1, 1) := by decide +kernel
theorem dX12_power_25 : decode cX12_power 25 = .ok (.iaload, 1) := by decide +kernel
theorem dX12_power_26 : decode cX12_power 26 = .ok (.if_icmp .ge 17, 3) := by decide +kernel
theorem dX12_power_29 : decode cX12_power 29 = .ok (.iload_n 2, 1) := by decide +kernel
theorem dX12_power_30 : decode cX12_power 30 = .ok (.aload_n 0, 1) := by decide +kernel
theorem dX12_power_31 : decode cX12_power 31 = .ok (.iload_n 3, 1) := by decide +kernel
theorem dX12_power_32 : decode cX12_power 32 = .ok (.invokevirtual 439, 3) := by decide +kernel
theorem dX12_power_35 : decode cX12_power 35 = .ok (.iadd, 1) := by decide +kernel
theorem dX12_power_36 : decode cX12_power 36 = .ok (.istore_n 2, 1) := by decide +kernel
theorem dX12_power_37 : decode cX12_power 37 = .ok (.iinc 3 1, 3) := by decide +kernel
theorem dX12_power_40 : decode cX12_power 40 = .ok (.goto (-21), 3) := by decide +kernel
theorem dX12_power_43 : decode cX12_power 43 = .ok (.iload_n 2, 1) := by decide +kernel
theorem dX12_power_44 : decode cX12_power 44 = .ok (.ifCond .ne 7, 3) := by decide +kernel
theorem dX12_power_47 : decode cX12_power 47 = .ok (.iconst (-1), 1) := by decide +kernel
theorem dX12_power_48 : decode cX12_power 48 = .ok (.goto 17, 3) := by decide +kernel
theorem dX12_power_51 : decode cX12_power 51 = .ok (.aload_n 0, 1) := by decide +kernel
theorem dX12_power_52 : decode cX12_power 52 = .ok (.iload_n 1, 1) := by decide +kernel
theorem dX12_power_53 : decode cX12_power 53 = .ok (.invokevirtual 439, 3) := by decide +kernel
theorem dX12_power_56 : decode cX12_power 56 = .ok (.i2l, 1) := by decide +kernel
theorem dX12_power_57 : decode cX12_power 57 = .ok (.ldc2_w 442, 3) := by decide +kernel
theorem dX12_power_60 : decode cX12_power 60 = .ok (.lmul, 1) := by decide +kernel
theorem dX12_power_61 : decode cX12_power 61 = .ok (.iload_n 2, 1) := by decide +kernel
theorem dX12_power_62 : decode cX12_power 62 = .ok (.i2l, 1) := by decide +kernel
theorem dX12_power_63 : decode cX12_power 63 = .ok (.ldiv, 1) := by decide +kernel
theorem dX12_power_64 : decode cX12_power 64 = .ok (.l2i, 1) := by decide +kernel
theorem dX12_power_65 : decode cX12_power 65 = .ok (.ireturn, 1) := by decide +kernel
theorem dX12_core_0 : decode cX12_core 0 = .ok (.aload_n 0, 1) := by decide +kernel
theorem dX12_core_1 : decode cX12_core 1 = .ok (.iconst 0, 1) := by decide +kernel
theorem dX12_core_2 : decode cX12_core 2 = .ok (.putfield 133, 3) := by decide +kernel
theorem dX12_core_5 : decode cX12_core 5 = .ok (.iconst 1, 1) := by decide +kernel
theorem dX12_core_6 : decode cX12_core 6 = .ok (.aload_n 0, 1) := by decide +kernel
theorem dX12_core_7 : decode cX12_core 7 = .ok (.getfield 13, 3) := by decide +kernel
theorem dX12_core_10 : decode cX12_core 10 = .ok (.iconst 1, 1) := by decide +kernel
theorem dX12_core_11 : decode cX12_core 11 = .ok (.iaload, 1) := by decide +kernel
theorem dX12_core_12 : decode cX12_core 12 = .ok (.ishl, 1) := by decide +kernel
theorem dX12_core_13 : decode cX12_core 13 = .ok (.iconst 1, 1) := by decide +kernel
theorem dX12_core_14 : decode cX12_core 14 = .ok (.isub, 1) := by decide +kernel
theorem dX12_core_15 : decode cX12_core 15 = .ok (.istore_n 1, 1) := by decide +kernel
theorem dX12_core_16 : decode cX12_core 16 = .ok (.iconst 0, 1) := by decide +kernel
theorem dX12_core_17 : decode cX12_core 17 = .ok (.istore_n 2, 1) := by decide +kernel
theorem dX12_core_18 : decode cX12_core 18 = .ok (.iconst 0, 1) := by decide +kernel
theorem dX12_core_19 : decode cX12_core 19 = .ok (.istore_n 3, 1) := by decide +kernel
theorem dX12_core_20 : decode cX12_core 20 = .ok (.iload_n 3, 1) := by decide +kernel
theorem dX12_core_21 : decode cX12_core 21 = .ok (.iconst 1, 1) := by decide +kernel
theorem dX12_core_22 : decode cX12_core 22 = .ok (.aload_n 0, 1) := by decide +kernel
theorem dX12_core_23 : decode cX12_core 23 = .ok (.getfield 13, 3) := by decide +kernel
theorem dX12_core_26 : decode cX12_core 26 = .ok (.iconst 1, 1) := by decide +kernel
theorem dX12_core_27 : decode cX12_core 27 = .ok (.iaload, 1) := by decide +kernel
theorem dX12_core_28 : decode cX12_core 28 = .ok (.ishl, 1) := by decide +kernel
theorem dX12_core_29 : decode cX12_core 29 = .ok (.if_icmp .ge 26, 3) := by decide +kernel
theorem dX12_core_32 : decode cX12_core 32 = .ok (.aload_n 0, 1) := by decide +kernel
theorem dX12_core_33 : decode cX12_core 33 = .ok (.iload_n 3, 1) := by decide +kernel
theorem dX12_core_34 : decode cX12_core 34 = .ok (.invokevirtual 436, 3) := by decide +kernel
theorem dX12_core_37 : decode cX12_core 37 = .ok (.ifCond .ne 6, 3) := by decide +kernel
theorem dX12_core_40 : decode cX12_core 40 = .ok (.goto 9, 3) := by decide +kernel
theorem dX12_core_43 : decode cX12_core 43 = .ok (.iconst 1, 1) := by decide +kernel
theorem dX12_core_44 : decode cX12_core 44 = .ok (.istore_n 2, 1) := by decide +kernel
theorem dX12_core_45 : decode cX12_core 45 = .ok (.iload_n 1, 1) := by decide +kernel
theorem dX12_core_46 : decode cX12_core 46 = .ok (.iload_n 3, 1) := by decide +kernel
theorem dX12_core_47 : decode cX12_core 47 = .ok (.iand, 1) := by decide +kernel
theorem dX12_core_48 : decode cX12_core 48 = .ok (.istore_n 1, 1) := by decide +kernel
theorem dX12_core_49 : decode cX12_core 49 = .ok (.iinc 3 1, 3) := by decide +kernel
theorem dX12_core_52 : decode cX12_core 52 = .ok (.goto (-32), 3) := by decide +kernel
theorem dX12_core_55 : decode cX12_core 55 = .ok (.iload_n 2, 1) := by decide +kernel
theorem dX12_core_56 : decode cX12_core 56 = .ok (.ifCond .eq 7, 3) := by decide +kernel
theorem dX12_core_59 : decode cX12_core 59 = .ok (.iload_n 1, 1) := by decide +kernel
theorem dX12_core_60 : decode cX12_core 60 = .ok (.goto 4, 3) := by decide +kernel
theorem dX12_core_63 : decode cX12_core 63 = .ok (.iconst 0, 1) := by decide +kernel
theorem dX12_core_64 : decode cX12_core 64 = .ok (.ireturn, 1) := by decide +kernel
theorem dX12_lean_0 : decode cX12_lean 0 = .ok (.aload_n 0, 1) := by decide +kernel
theorem dX12_lean_1 : decode cX12_lean 1 = .ok (.iconst 0, 1) := by decide +kernel
theorem dX12_lean_2 : decode cX12_lean 2 = .ok (.putfield 133, 3) := by decide +kernel
theorem dX12_lean_5 : decode cX12_lean 5 = .ok (.iconst (-1), 1) := by decide +kernel
theorem dX12_lean_6 : decode cX12_lean 6 = .ok (.istore_n 1, 1) := by decide +kernel
theorem dX12_lean_7 : decode cX12_lean 7 = .ok (.iconst 0, 1) := by decide +kernel
theorem dX12_lean_8 : decode cX12_lean 8 = .ok (.istore_n 2, 1) := by decide +kernel
theorem dX12_lean_9 : decode cX12_lean 9 = .ok (.iload_n 2, 1) := by decide +kernel
theorem dX12_lean_10 : decode cX12_lean 10 = .ok (.iconst 1, 1) := by decide +kernel
theorem dX12_lean_11 : decode cX12_lean 11 = .ok (.aload_n 0, 1) := by decide +kernel
theorem dX12_lean_12 : decode cX12_lean 12 = .ok (.getfield 13, 3) := by decide +kernel
theorem dX12_lean_15 : decode cX12_lean 15 = .ok (.iconst 1, 1) := by decide +kernel
theorem dX12_lean_16 : decode cX12_lean 16 = .ok (.iaload, 1) := by decide +kernel
theorem dX12_lean_17 : decode cX12_lean 17 = .ok (.ishl, 1) := by decide +kernel
theorem dX12_lean_18 : decode cX12_lean 18 = .ok (.if_icmp .ge 34, 3) := by decide +kernel
theorem dX12_lean_21 : decode cX12_lean 21 = .ok (.aload_n 0, 1) := by decide +kernel
theorem dX12_lean_22 : decode cX12_lean 22 = .ok (.iload_n 2, 1) := by decide +kernel
theorem dX12_lean_23 : decode cX12_lean 23 = .ok (.invokevirtual 436, 3) := by decide +kernel
theorem dX12_lean_26 : decode cX12_lean 26 = .ok (.ifCond .eq 20, 3) := by decide +kernel
theorem dX12_lean_29 : decode cX12_lean 29 = .ok (.iload_n 1, 1) := by decide +kernel
theorem dX12_lean_30 : decode cX12_lean 30 = .ok (.ifCond .lt 14, 3) := by decide +kernel
theorem dX12_lean_33 : decode cX12_lean 33 = .ok (.iload_n 2, 1) := by decide +kernel
theorem dX12_lean_34 : decode cX12_lean 34 = .ok (.invokestatic 433, 3) := by decide +kernel
theorem dX12_lean_37 : decode cX12_lean 37 = .ok (.iload_n 1, 1) := by decide +kernel
theorem dX12_lean_38 : decode cX12_lean 38 = .ok (.invokestatic 433, 3) := by decide +kernel
theorem dX12_lean_41 : decode cX12_lean 41 = .ok (.if_icmp .ge 5, 3) := by decide +kernel
theorem dX12_lean_44 : decode cX12_lean 44 = .ok (.iload_n 2, 1) := by decide +kernel
theorem dX12_lean_45 : decode cX12_lean 45 = .ok (.istore_n 1, 1) := by decide +kernel
theorem dX12_lean_46 : decode cX12_lean 46 = .ok (.iinc 2 1, 3) := by decide +kernel
theorem dX12_lean_49 : decode cX12_lean 49 = .ok (.goto (-40), 3) := by decide +kernel
theorem dX12_lean_52 : decode cX12_lean 52 = .ok (.iload_n 1, 1) := by decide +kernel
theorem dX12_lean_53 : decode cX12_lean 53 = .ok (.ireturn, 1) := by decide +kernel
theorem dX12_isHalvedBy_0 : decode cX12_isHalvedBy 0 = .ok (.aload_n 0, 1) := by decide +kernel
theorem dX12_isHalvedBy_1 : decode cX12_isHalvedBy 1 = .ok (.iload_n 2, 1) := by decide +kernel
theorem dX12_isHalvedBy_2 : decode cX12_isHalvedBy 2 = .ok (.invokevirtual 398, 3) := by decide +kernel
theorem dX12_isHalvedBy_5 : decode cX12_isHalvedBy 5 = .ok (.ifCond .eq 22, 3) := by decide +kernel
theorem dX12_isHalvedBy_8 : decode cX12_isHalvedBy 8 = .ok (.aload_n 0, 1) := by decide +kernel
theorem dX12_isHalvedBy_9 : decode cX12_isHalvedBy 9 = .ok (.iload_n 3, 1) := by decide +kernel
theorem dX12_isHalvedBy_10 : decode cX12_isHalvedBy 10 = .ok (.invokevirtual 398, 3) := by decide +kernel
theorem dX12_isHalvedBy_13 : decode cX12_isHalvedBy 13 = .ok (.ifCond .eq 14, 3) := by decide +kernel
theorem dX12_isHalvedBy_16 : decode cX12_isHalvedBy 16 = .ok (.aload_n 0, 1) := by decide +kernel
theorem dX12_isHalvedBy_17 : decode cX12_isHalvedBy 17 = .ok (.iload_n 2, 1) := by decide +kernel
theorem dX12_isHalvedBy_18 : decode cX12_isHalvedBy 18 = .ok (.iload_n 3, 1) := by decide +kernel
theorem dX12_isHalvedBy_19 : decode cX12_isHalvedBy 19 = .ok (.iload 4, 2) := by decide +kernel
theorem dX12_isHalvedBy_21 : decode cX12_isHalvedBy 21 = .ok (.invokevirtual 414, 3) := by decide +kernel
theorem dX12_isHalvedBy_24 : decode cX12_isHalvedBy 24 = .ok (.ifCond .ne 5, 3) := by decide +kernel
theorem dX12_isHalvedBy_27 : decode cX12_isHalvedBy 27 = .ok (.iconst 0, 1) := by decide +kernel
theorem dX12_isHalvedBy_28 : decode cX12_isHalvedBy 28 = .ok (.ireturn, 1) := by decide +kernel
theorem dX12_isHalvedBy_29 : decode cX12_isHalvedBy 29 = .ok (.aload_n 0, 1) := by decide +kernel
theorem dX12_isHalvedBy_30 : decode cX12_isHalvedBy 30 = .ok (.iload_n 2, 1) := by decide +kernel
theorem dX12_isHalvedBy_31 : decode cX12_isHalvedBy 31 = .ok (.iload_n 3, 1) := by decide +kernel
theorem dX12_isHalvedBy_32 : decode cX12_isHalvedBy 32 = .ok (.iload 4, 2) := by decide +kernel
theorem dX12_isHalvedBy_34 : decode cX12_isHalvedBy 34 = .ok (.invokevirtual 417, 3) := by decide +kernel
theorem dX12_isHalvedBy_37 : decode cX12_isHalvedBy 37 = .ok (.aload_n 0, 1) := by decide +kernel
theorem dX12_isHalvedBy_38 : decode cX12_isHalvedBy 38 = .ok (.iload_n 1, 1) := by decide +kernel
theorem dX12_isHalvedBy_39 : decode cX12_isHalvedBy 39 = .ok (.invokevirtual 395, 3) := by decide +kernel
theorem dX12_isHalvedBy_42 : decode cX12_isHalvedBy 42 = .ok (.iconst 1, 1) := by decide +kernel
theorem dX12_isHalvedBy_43 : decode cX12_isHalvedBy 43 = .ok (.if_icmp .ne 7, 3) := by decide +kernel
theorem dX12_isHalvedBy_46 : decode cX12_isHalvedBy 46 = .ok (.iconst 1, 1) := by decide +kernel
theorem dX12_isHalvedBy_47 : decode cX12_isHalvedBy 47 = .ok (.goto 4, 3) := by decide +kernel
theorem dX12_isHalvedBy_50 : decode cX12_isHalvedBy 50 = .ok (.iconst 0, 1) := by decide +kernel
theorem dX12_isHalvedBy_51 : decode cX12_isHalvedBy 51 = .ok (.istore 5, 2) := by decide +kernel
theorem dX12_isHalvedBy_53 : decode cX12_isHalvedBy 53 = .ok (.aload_n 0, 1) := by decide +kernel
theorem dX12_isHalvedBy_54 : decode cX12_isHalvedBy 54 = .ok (.iload_n 3, 1) := by decide +kernel
theorem dX12_isHalvedBy_55 : decode cX12_isHalvedBy 55 = .ok (.iload_n 2, 1) := by decide +kernel
theorem dX12_isHalvedBy_56 : decode cX12_isHalvedBy 56 = .ok (.iload 4, 2) := by decide +kernel
theorem dX12_isHalvedBy_58 : decode cX12_isHalvedBy 58 = .ok (.invokevirtual 417, 3) := by decide +kernel
theorem dX12_isHalvedBy_61 : decode cX12_isHalvedBy 61 = .ok (.iload 5, 2) := by decide +kernel
theorem dX12_isHalvedBy_63 : decode cX12_isHalvedBy 63 = .ok (.ireturn, 1) := by decide +kernel
theorem dX12_shift_0 : decode cX12_shift 0 = .ok (.aload_n 0, 1) := by decide +kernel
theorem dX12_shift_1 : decode cX12_shift 1 = .ok (.iconst 0, 1) := by decide +kernel
theorem dX12_shift_2 : decode cX12_shift 2 = .ok (.putfield 133, 3) := by decide +kernel
theorem dX12_shift_5 : decode cX12_shift 5 = .ok (.aload_n 0, 1) := by decide +kernel
theorem dX12_shift_6 : decode cX12_shift 6 = .ok (.iload_n 1, 1) := by decide +kernel
theorem dX12_shift_7 : decode cX12_shift 7 = .ok (.invokevirtual 392, 3) := by decide +kernel
theorem dX12_shift_10 : decode cX12_shift 10 = .ok (.ifCond .eq 12, 3) := by decide +kernel
theorem dX12_shift_13 : decode cX12_shift 13 = .ok (.iload_n 2, 1) := by decide +kernel
theorem dX12_shift_14 : decode cX12_shift 14 = .ok (.iconst 0, 1) := by decide +kernel
theorem dX12_shift_15 : decode cX12_shift 15 = .ok (.iconst 2, 1) := by decide +kernel
theorem dX12_shift_16 : decode cX12_shift 16 = .ok (.invokestatic 253, 3) := by decide +kernel
theorem dX12_shift_19 : decode cX12_shift 19 = .ok (.ifCond .ne 6, 3) := by decide +kernel
theorem dX12_shift_22 : decode cX12_shift 22 = .ok (.bipush (-2), 2) := by decide +kernel
theorem dX12_shift_24 : decode cX12_shift 24 = .ok (.ireturn, 1) := by decide +kernel
theorem dX12_shift_25 : decode cX12_shift 25 = .ok (.aload_n 0, 1) := by decide +kernel
theorem dX12_shift_26 : decode cX12_shift 26 = .ok (.iload_n 1, 1) := by decide +kernel
theorem dX12_shift_27 : decode cX12_shift 27 = .ok (.invokevirtual 395, 3) := by decide +kernel
theorem dX12_shift_30 : decode cX12_shift 30 = .ok (.iconst 1, 1) := by decide +kernel
theorem dX12_shift_31 : decode cX12_shift 31 = .ok (.if_icmp .ne 13, 3) := by decide +kernel
theorem dX12_shift_34 : decode cX12_shift 34 = .ok (.iload_n 2, 1) := by decide +kernel
theorem dX12_shift_35 : decode cX12_shift 35 = .ok (.ifCond .ne 7, 3) := by decide +kernel
theorem dX12_shift_38 : decode cX12_shift 38 = .ok (.iconst 0, 1) := by decide +kernel
theorem dX12_shift_39 : decode cX12_shift 39 = .ok (.goto 4, 3) := by decide +kernel
theorem dX12_shift_42 : decode cX12_shift 42 = .ok (.iconst (-1), 1) := by decide +kernel
theorem dX12_shift_43 : decode cX12_shift 43 = .ok (.ireturn, 1) := by decide +kernel
theorem dX12_shift_44 : decode cX12_shift 44 = .ok (.iconst 1, 1) := by decide +kernel
theorem dX12_shift_45 : decode cX12_shift 45 = .ok (.istore_n 3, 1) := by decide +kernel
theorem dX12_shift_46 : decode cX12_shift 46 = .ok (.iload_n 3, 1) := by decide +kernel
theorem dX12_shift_47 : decode cX12_shift 47 = .ok (.bipush 21, 2) := by decide +kernel
theorem dX12_shift_49 : decode cX12_shift 49 = .ok (.if_icmp .ge 71, 3) := by decide +kernel
theorem dX12_shift_52 : decode cX12_shift 52 = .ok (.iconst 0, 1) := by decide +kernel
theorem dX12_shift_53 : decode cX12_shift 53 = .ok (.istore 4, 2) := by decide +kernel
theorem dX12_shift_55 : decode cX12_shift 55 = .ok (.iload 4, 2) := by decide +kernel
theorem dX12_shift_57 : decode cX12_shift 57 = .ok (.bipush 25, 2) := by decide +kernel
theorem dX12_shift_59 : decode cX12_shift 59 = .ok (.if_icmp .ge 55, 3) := by decide +kernel
theorem dX12_shift_62 : decode cX12_shift 62 = .ok (.iload 4, 2) := by decide +kernel
theorem dX12_shift_64 : decode cX12_shift 64 = .ok (.iconst 5, 1) := by decide +kernel
theorem dX12_shift_65 : decode cX12_shift 65 = .ok (.idiv, 1) := by decide +kernel
theorem dX12_shift_66 : decode cX12_shift 66 = .ok (.istore 5, 2) := by decide +kernel
theorem dX12_shift_68 : decode cX12_shift 68 = .ok (.iload 4, 2) := by decide +kernel
theorem dX12_shift_70 : decode cX12_shift 70 = .ok (.iconst 5, 1) := by decide +kernel
theorem dX12_shift_71 : decode cX12_shift 71 = .ok (.irem, 1) := by decide +kernel
theorem dX12_shift_72 : decode cX12_shift 72 = .ok (.istore 6, 2) := by decide +kernel
theorem dX12_shift_74 : decode cX12_shift 74 = .ok (.aload_n 0, 1) := by decide +kernel
theorem dX12_shift_75 : decode cX12_shift 75 = .ok (.iload_n 1, 1) := by decide +kernel
theorem dX12_shift_76 : decode cX12_shift 76 = .ok (.iload 5, 2) := by decide +kernel
theorem dX12_shift_78 : decode cX12_shift 78 = .ok (.iload 6, 2) := by decide +kernel
theorem dX12_shift_80 : decode cX12_shift 80 = .ok (.iload_n 3, 1) := by decide +kernel
theorem dX12_shift_81 : decode cX12_shift 81 = .ok (.invokevirtual 444, 3) := by decide +kernel
theorem dX12_shift_84 : decode cX12_shift 84 = .ok (.ifCond .eq 24, 3) := by decide +kernel
theorem dX12_shift_87 : decode cX12_shift 87 = .ok (.iload_n 2, 1) := by decide +kernel
theorem dX12_shift_88 : decode cX12_shift 88 = .ok (.ifCond .ne 7, 3) := by decide +kernel
theorem dX12_shift_91 : decode cX12_shift 91 = .ok (.iload_n 3, 1) := by decide +kernel
theorem dX12_shift_92 : decode cX12_shift 92 = .ok (.goto 15, 3) := by decide +kernel
theorem dX12_shift_95 : decode cX12_shift 95 = .ok (.iload_n 2, 1) := by decide +kernel
theorem dX12_shift_96 : decode cX12_shift 96 = .ok (.iconst 1, 1) := by decide +kernel
theorem dX12_shift_97 : decode cX12_shift 97 = .ok (.if_icmp .ne 8, 3) := by decide +kernel
theorem dX12_shift_100 : decode cX12_shift 100 = .ok (.iload 5, 2) := by decide +kernel
theorem dX12_shift_102 : decode cX12_shift 102 = .ok (.goto 5, 3) := by decide +kernel
theorem dX12_shift_105 : decode cX12_shift 105 = .ok (.iload 6, 2) := by decide +kernel
theorem dX12_shift_107 : decode cX12_shift 107 = .ok (.ireturn, 1) := by decide +kernel
theorem dX12_shift_108 : decode cX12_shift 108 = .ok (.iinc 4 1, 3) := by decide +kernel
theorem dX12_shift_111 : decode cX12_shift 111 = .ok (.goto (-56), 3) := by decide +kernel
theorem dX12_shift_114 : decode cX12_shift 114 = .ok (.iinc 3 1, 3) := by decide +kernel
theorem dX12_shift_117 : decode cX12_shift 117 = .ok (.goto (-71), 3) := by decide +kernel
theorem dX12_shift_120 : decode cX12_shift 120 = .ok (.bipush (-2), 2) := by decide +kernel
theorem dX12_shift_122 : decode cX12_shift 122 = .ok (.ireturn, 1) := by decide +kernel
theorem dX12_agreeOf_0 : decode cX12_agreeOf 0 = .ok (.aload_n 0, 1) := by decide +kernel
theorem dX12_agreeOf_1 : decode cX12_agreeOf 1 = .ok (.getfield 13, 3) := by decide +kernel
theorem dX12_agreeOf_4 : decode cX12_agreeOf 4 = .ok (.iconst 0, 1) := by decide +kernel
theorem dX12_agreeOf_5 : decode cX12_agreeOf 5 = .ok (.iaload, 1) := by decide +kernel
theorem dX12_agreeOf_6 : decode cX12_agreeOf 6 = .ok (.aload_n 0, 1) := by decide +kernel
theorem dX12_agreeOf_7 : decode cX12_agreeOf 7 = .ok (.getfield 35, 3) := by decide +kernel
theorem dX12_agreeOf_10 : decode cX12_agreeOf 10 = .ok (.iload_n 1, 1) := by decide +kernel
theorem dX12_agreeOf_11 : decode cX12_agreeOf 11 = .ok (.iaload, 1) := by decide +kernel
theorem dX12_agreeOf_12 : decode cX12_agreeOf 12 = .ok (.aload_n 0, 1) := by decide +kernel
theorem dX12_agreeOf_13 : decode cX12_agreeOf 13 = .ok (.getfield 35, 3) := by decide +kernel
theorem dX12_agreeOf_16 : decode cX12_agreeOf 16 = .ok (.iload_n 2, 1) := by decide +kernel
theorem dX12_agreeOf_17 : decode cX12_agreeOf 17 = .ok (.iaload, 1) := by decide +kernel
theorem dX12_agreeOf_18 : decode cX12_agreeOf 18 = .ok (.ixor, 1) := by decide +kernel
theorem dX12_agreeOf_19 : decode cX12_agreeOf 19 = .ok (.invokestatic 433, 3) := by decide +kernel
theorem dX12_agreeOf_22 : decode cX12_agreeOf 22 = .ok (.isub, 1) := by decide +kernel
theorem dX12_agreeOf_23 : decode cX12_agreeOf 23 = .ok (.ireturn, 1) := by decide +kernel
theorem dX12_rival_0 : decode cX12_rival 0 = .ok (.aload_n 0, 1) := by decide +kernel
theorem dX12_rival_1 : decode cX12_rival 1 = .ok (.iconst 0, 1) := by decide +kernel
theorem dX12_rival_2 : decode cX12_rival 2 = .ok (.putfield 133, 3) := by decide +kernel
theorem dX12_rival_5 : decode cX12_rival 5 = .ok (.aload_n 0, 1) := by decide +kernel
theorem dX12_rival_6 : decode cX12_rival 6 = .ok (.iload_n 1, 1) := by decide +kernel
theorem dX12_rival_7 : decode cX12_rival 7 = .ok (.invokevirtual 398, 3) := by decide +kernel
theorem dX12_rival_10 : decode cX12_rival 10 = .ok (.ifCond .ne 5, 3) := by decide +kernel
theorem dX12_rival_13 : decode cX12_rival 13 = .ok (.iconst (-1), 1) := by decide +kernel
theorem dX12_rival_14 : decode cX12_rival 14 = .ok (.ireturn, 1) := by decide +kernel
theorem dX12_rival_15 : decode cX12_rival 15 = .ok (.iconst (-1), 1) := by decide +kernel
theorem dX12_rival_16 : decode cX12_rival 16 = .ok (.istore_n 2, 1) := by decide +kernel
theorem dX12_rival_17 : decode cX12_rival 17 = .ok (.iconst 0, 1) := by decide +kernel
theorem dX12_rival_18 : decode cX12_rival 18 = .ok (.istore_n 3, 1) := by decide +kernel
theorem dX12_rival_19 : decode cX12_rival 19 = .ok (.iload_n 3, 1) := by decide +kernel
theorem dX12_rival_20 : decode cX12_rival 20 = .ok (.aload_n 0, 1) := by decide +kernel
theorem dX12_rival_21 : decode cX12_rival 21 = .ok (.getfield 13, 3) := by decide +kernel
theorem dX12_rival_24 : decode cX12_rival 24 = .ok (.iconst 1, 1) := by decide +kernel
theorem dX12_rival_25 : decode cX12_rival 25 = .ok (.iaload, 1) := by decide +kernel
theorem dX12_rival_26 : decode cX12_rival 26 = .ok (.if_icmp .ge 35, 3) := by decide +kernel
theorem dX12_rival_29 : decode cX12_rival 29 = .ok (.iload_n 3, 1) := by decide +kernel
theorem dX12_rival_30 : decode cX12_rival 30 = .ok (.iload_n 1, 1) := by decide +kernel
theorem dX12_rival_31 : decode cX12_rival 31 = .ok (.if_icmp .eq 24, 3) := by decide +kernel
theorem dX12_rival_34 : decode cX12_rival 34 = .ok (.iload_n 2, 1) := by decide +kernel
theorem dX12_rival_35 : decode cX12_rival 35 = .ok (.ifCond .lt 18, 3) := by decide +kernel
theorem dX12_rival_38 : decode cX12_rival 38 = .ok (.aload_n 0, 1) := by decide +kernel
theorem dX12_rival_39 : decode cX12_rival 39 = .ok (.iload_n 1, 1) := by decide +kernel
theorem dX12_rival_40 : decode cX12_rival 40 = .ok (.iload_n 3, 1) := by decide +kernel
theorem dX12_rival_41 : decode cX12_rival 41 = .ok (.invokevirtual 448, 3) := by decide +kernel
theorem dX12_rival_44 : decode cX12_rival 44 = .ok (.aload_n 0, 1) := by decide +kernel
theorem dX12_rival_45 : decode cX12_rival 45 = .ok (.iload_n 1, 1) := by decide +kernel
theorem dX12_rival_46 : decode cX12_rival 46 = .ok (.iload_n 2, 1) := by decide +kernel
theorem dX12_rival_47 : decode cX12_rival 47 = .ok (.invokevirtual 448, 3) := by decide +kernel
theorem dX12_rival_50 : decode cX12_rival 50 = .ok (.if_icmp .ge 5, 3) := by decide +kernel
theorem dX12_rival_53 : decode cX12_rival 53 = .ok (.iload_n 3, 1) := by decide +kernel
theorem dX12_rival_54 : decode cX12_rival 54 = .ok (.istore_n 2, 1) := by decide +kernel
theorem dX12_rival_55 : decode cX12_rival 55 = .ok (.iinc 3 1, 3) := by decide +kernel
theorem dX12_rival_58 : decode cX12_rival 58 = .ok (.goto (-39), 3) := by decide +kernel
theorem dX12_rival_61 : decode cX12_rival 61 = .ok (.iload_n 2, 1) := by decide +kernel
theorem dX12_rival_62 : decode cX12_rival 62 = .ok (.ireturn, 1) := by decide +kernel
theorem dX12_friends_0 : decode cX12_friends 0 = .ok (.aload_n 0, 1) := by decide +kernel
theorem dX12_friends_1 : decode cX12_friends 1 = .ok (.iconst 0, 1) := by decide +kernel
theorem dX12_friends_2 : decode cX12_friends 2 = .ok (.putfield 133, 3) := by decide +kernel
theorem dX12_friends_5 : decode cX12_friends 5 = .ok (.iconst 0, 1) := by decide +kernel
theorem dX12_friends_6 : decode cX12_friends 6 = .ok (.istore_n 1, 1) := by decide +kernel
theorem dX12_friends_7 : decode cX12_friends 7 = .ok (.iconst 0, 1) := by decide +kernel
theorem dX12_friends_8 : decode cX12_friends 8 = .ok (.istore_n 2, 1) := by decide +kernel
theorem dX12_friends_9 : decode cX12_friends 9 = .ok (.iload_n 2, 1) := by decide +kernel
theorem dX12_friends_10 : decode cX12_friends 10 = .ok (.aload_n 0, 1) := by decide +kernel
theorem dX12_friends_11 : decode cX12_friends 11 = .ok (.getfield 13, 3) := by decide +kernel
theorem dX12_friends_14 : decode cX12_friends 14 = .ok (.iconst 1, 1) := by decide +kernel
theorem dX12_friends_15 : decode cX12_friends 15 = .ok (.iaload, 1) := by decide +kernel
theorem dX12_friends_16 : decode cX12_friends 16 = .ok (.if_icmp .ge 45, 3) := by decide +kernel
theorem dX12_friends_19 : decode cX12_friends 19 = .ok (.iconst 0, 1) := by decide +kernel
theorem dX12_friends_20 : decode cX12_friends 20 = .ok (.istore_n 3, 1) := by decide +kernel
theorem dX12_friends_21 : decode cX12_friends 21 = .ok (.iload_n 3, 1) := by decide +kernel
theorem dX12_friends_22 : decode cX12_friends 22 = .ok (.iload_n 2, 1) := by decide +kernel
theorem dX12_friends_23 : decode cX12_friends 23 = .ok (.if_icmp .ge 32, 3) := by decide +kernel
theorem dX12_friends_26 : decode cX12_friends 26 = .ok (.iload_n 1, 1) := by decide +kernel
theorem dX12_friends_27 : decode cX12_friends 27 = .ok (.aload_n 0, 1) := by decide +kernel
theorem dX12_friends_28 : decode cX12_friends 28 = .ok (.getfield 35, 3) := by decide +kernel
theorem dX12_friends_31 : decode cX12_friends 31 = .ok (.iload_n 2, 1) := by decide +kernel
theorem dX12_friends_32 : decode cX12_friends 32 = .ok (.iaload, 1) := by decide +kernel
theorem dX12_friends_33 : decode cX12_friends 33 = .ok (.aload_n 0, 1) := by decide +kernel
theorem dX12_friends_34 : decode cX12_friends 34 = .ok (.getfield 35, 3) := by decide +kernel
theorem dX12_friends_37 : decode cX12_friends 37 = .ok (.iload_n 3, 1) := by decide +kernel
theorem dX12_friends_38 : decode cX12_friends 38 = .ok (.iaload, 1) := by decide +kernel
theorem dX12_friends_39 : decode cX12_friends 39 = .ok (.if_icmp .ne 7, 3) := by decide +kernel
theorem dX12_friends_42 : decode cX12_friends 42 = .ok (.iconst 1, 1) := by decide +kernel
theorem dX12_friends_43 : decode cX12_friends 43 = .ok (.goto 4, 3) := by decide +kernel
theorem dX12_friends_46 : decode cX12_friends 46 = .ok (.iconst 0, 1) := by decide +kernel
theorem dX12_friends_47 : decode cX12_friends 47 = .ok (.iadd, 1) := by decide +kernel
theorem dX12_friends_48 : decode cX12_friends 48 = .ok (.istore_n 1, 1) := by decide +kernel
theorem dX12_friends_49 : decode cX12_friends 49 = .ok (.iinc 3 1, 3) := by decide +kernel
theorem dX12_friends_52 : decode cX12_friends 52 = .ok (.goto (-31), 3) := by decide +kernel
theorem dX12_friends_55 : decode cX12_friends 55 = .ok (.iinc 2 1, 3) := by decide +kernel
theorem dX12_friends_58 : decode cX12_friends 58 = .ok (.goto (-49), 3) := by decide +kernel
theorem dX12_friends_61 : decode cX12_friends 61 = .ok (.iload_n 1, 1) := by decide +kernel
theorem dX12_friends_62 : decode cX12_friends 62 = .ok (.ireturn, 1) := by decide +kernel
theorem dX12_bloc_0 : decode cX12_bloc 0 = .ok (.aload_n 0, 1) := by decide +kernel
theorem dX12_bloc_1 : decode cX12_bloc 1 = .ok (.iconst 0, 1) := by decide +kernel
theorem dX12_bloc_2 : decode cX12_bloc 2 = .ok (.putfield 133, 3) := by decide +kernel
theorem dX12_bloc_5 : decode cX12_bloc 5 = .ok (.aload_n 0, 1) := by decide +kernel
theorem dX12_bloc_6 : decode cX12_bloc 6 = .ok (.iload_n 1, 1) := by decide +kernel
theorem dX12_bloc_7 : decode cX12_bloc 7 = .ok (.invokevirtual 392, 3) := by decide +kernel
theorem dX12_bloc_10 : decode cX12_bloc 10 = .ok (.ifCond .eq 11, 3) := by decide +kernel
theorem dX12_bloc_13 : decode cX12_bloc 13 = .ok (.aload_n 0, 1) := by decide +kernel
theorem dX12_bloc_14 : decode cX12_bloc 14 = .ok (.iload_n 1, 1) := by decide +kernel
theorem dX12_bloc_15 : decode cX12_bloc 15 = .ok (.invokevirtual 357, 3) := by decide +kernel
theorem dX12_bloc_18 : decode cX12_bloc 18 = .ok (.goto 4, 3) := by decide +kernel
theorem dX12_bloc_21 : decode cX12_bloc 21 = .ok (.iconst (-1), 1) := by decide +kernel
theorem dX12_bloc_22 : decode cX12_bloc 22 = .ok (.ireturn, 1) := by decide +kernel
theorem dX12_orphans_0 : decode cX12_orphans 0 = .ok (.aload_n 0, 1) := by decide +kernel
theorem dX12_orphans_1 : decode cX12_orphans 1 = .ok (.iconst 0, 1) := by decide +kernel
theorem dX12_orphans_2 : decode cX12_orphans 2 = .ok (.putfield 133, 3) := by decide +kernel
theorem dX12_orphans_5 : decode cX12_orphans 5 = .ok (.iconst 0, 1) := by decide +kernel
theorem dX12_orphans_6 : decode cX12_orphans 6 = .ok (.istore_n 1, 1) := by decide +kernel
theorem dX12_orphans_7 : decode cX12_orphans 7 = .ok (.iconst 0, 1) := by decide +kernel
theorem dX12_orphans_8 : decode cX12_orphans 8 = .ok (.istore_n 2, 1) := by decide +kernel
theorem dX12_orphans_9 : decode cX12_orphans 9 = .ok (.iload_n 2, 1) := by decide +kernel
theorem dX12_orphans_10 : decode cX12_orphans 10 = .ok (.aload_n 0, 1) := by decide +kernel
theorem dX12_orphans_11 : decode cX12_orphans 11 = .ok (.getfield 13, 3) := by decide +kernel
theorem dX12_orphans_14 : decode cX12_orphans 14 = .ok (.iconst 0, 1) := by decide +kernel
theorem dX12_orphans_15 : decode cX12_orphans 15 = .ok (.iaload, 1) := by decide +kernel
theorem dX12_orphans_16 : decode cX12_orphans 16 = .ok (.if_icmp .ge 27, 3) := by decide +kernel
theorem dX12_orphans_19 : decode cX12_orphans 19 = .ok (.iload_n 1, 1) := by decide +kernel
theorem dX12_orphans_20 : decode cX12_orphans 20 = .ok (.aload_n 0, 1) := by decide +kernel
theorem dX12_orphans_21 : decode cX12_orphans 21 = .ok (.iload_n 2, 1) := by decide +kernel
theorem dX12_orphans_22 : decode cX12_orphans 22 = .ok (.invokevirtual 370, 3) := by decide +kernel
theorem dX12_orphans_25 : decode cX12_orphans 25 = .ok (.ifCond .ne 9, 3) := by decide +kernel
theorem dX12_orphans_28 : decode cX12_orphans 28 = .ok (.iconst 1, 1) := by decide +kernel
theorem dX12_orphans_29 : decode cX12_orphans 29 = .ok (.iload_n 2, 1) := by decide +kernel
theorem dX12_orphans_30 : decode cX12_orphans 30 = .ok (.ishl, 1) := by decide +kernel
theorem dX12_orphans_31 : decode cX12_orphans 31 = .ok (.goto 4, 3) := by decide +kernel
theorem dX12_orphans_34 : decode cX12_orphans 34 = .ok (.iconst 0, 1) := by decide +kernel
theorem dX12_orphans_35 : decode cX12_orphans 35 = .ok (.ior, 1) := by decide +kernel
theorem dX12_orphans_36 : decode cX12_orphans 36 = .ok (.istore_n 1, 1) := by decide +kernel
theorem dX12_orphans_37 : decode cX12_orphans 37 = .ok (.iinc 2 1, 3) := by decide +kernel
theorem dX12_orphans_40 : decode cX12_orphans 40 = .ok (.goto (-31), 3) := by decide +kernel
theorem dX12_orphans_43 : decode cX12_orphans 43 = .ok (.iload_n 1, 1) := by decide +kernel
theorem dX12_orphans_44 : decode cX12_orphans 44 = .ok (.ireturn, 1) := by decide +kernel
theorem dX12_laysHalves_0 : decode cX12_laysHalves 0 = .ok (.iconst 2, 1) := by decide +kernel
theorem dX12_laysHalves_1 : decode cX12_laysHalves 1 = .ok (.istore_n 1, 1) := by decide +kernel
theorem dX12_laysHalves_2 : decode cX12_laysHalves 2 = .ok (.iload_n 1, 1) := by decide +kernel
theorem dX12_laysHalves_3 : decode cX12_laysHalves 3 = .ok (.bipush 61, 2) := by decide +kernel
theorem dX12_laysHalves_5 : decode cX12_laysHalves 5 = .ok (.if_icmp .ge 74, 3) := by decide +kernel
theorem dX12_laysHalves_8 : decode cX12_laysHalves 8 = .ok (.iconst 0, 1) := by decide +kernel
theorem dX12_laysHalves_9 : decode cX12_laysHalves 9 = .ok (.istore_n 2, 1) := by decide +kernel
theorem dX12_laysHalves_10 : decode cX12_laysHalves 10 = .ok (.iconst 0, 1) := by decide +kernel
theorem dX12_laysHalves_11 : decode cX12_laysHalves 11 = .ok (.istore_n 3, 1) := by decide +kernel
theorem dX12_laysHalves_12 : decode cX12_laysHalves 12 = .ok (.iload_n 3, 1) := by decide +kernel
theorem dX12_laysHalves_13 : decode cX12_laysHalves 13 = .ok (.bipush 30, 2) := by decide +kernel
theorem dX12_laysHalves_15 : decode cX12_laysHalves 15 = .ok (.if_icmp .gt 58, 3) := by decide +kernel
theorem dX12_laysHalves_18 : decode cX12_laysHalves 18 = .ok (.aload_n 0, 1) := by decide +kernel
theorem dX12_laysHalves_19 : decode cX12_laysHalves 19 = .ok (.getfield 126, 3) := by decide +kernel
theorem dX12_laysHalves_22 : decode cX12_laysHalves 22 = .ok (.bipush 31, 2) := by decide +kernel
theorem dX12_laysHalves_24 : decode cX12_laysHalves 24 = .ok (.iload_n 1, 1) := by decide +kernel
theorem dX12_laysHalves_25 : decode cX12_laysHalves 25 = .ok (.imul, 1) := by decide +kernel
theorem dX12_laysHalves_26 : decode cX12_laysHalves 26 = .ok (.iload_n 3, 1) := by decide +kernel
theorem dX12_laysHalves_27 : decode cX12_laysHalves 27 = .ok (.iadd, 1) := by decide +kernel
theorem dX12_laysHalves_28 : decode cX12_laysHalves 28 = .ok (.iload_n 2, 1) := by decide +kernel
theorem dX12_laysHalves_29 : decode cX12_laysHalves 29 = .ok (.iload_n 1, 1) := by decide +kernel
theorem dX12_laysHalves_30 : decode cX12_laysHalves 30 = .ok (.iconst 2, 1) := by decide +kernel
theorem dX12_laysHalves_31 : decode cX12_laysHalves 31 = .ok (.idiv, 1) := by decide +kernel
theorem dX12_laysHalves_32 : decode cX12_laysHalves 32 = .ok (.if_icmp .ne 7, 3) := by decide +kernel
theorem dX12_laysHalves_35 : decode cX12_laysHalves 35 = .ok (.iconst 1, 1) := by decide +kernel
theorem dX12_laysHalves_36 : decode cX12_laysHalves 36 = .ok (.goto 4, 3) := by decide +kernel
theorem dX12_laysHalves_39 : decode cX12_laysHalves 39 = .ok (.iconst 0, 1) := by decide +kernel
theorem dX12_laysHalves_40 : decode cX12_laysHalves 40 = .ok (.bastore, 1) := by decide +kernel
theorem dX12_laysHalves_41 : decode cX12_laysHalves 41 = .ok (.iload_n 1, 1) := by decide +kernel
theorem dX12_laysHalves_42 : decode cX12_laysHalves 42 = .ok (.iconst 2, 1) := by decide +kernel
theorem dX12_laysHalves_43 : decode cX12_laysHalves 43 = .ok (.idiv, 1) := by decide +kernel
theorem dX12_laysHalves_44 : decode cX12_laysHalves 44 = .ok (.iload_n 2, 1) := by decide +kernel
theorem dX12_laysHalves_45 : decode cX12_laysHalves 45 = .ok (.aload_n 0, 1) := by decide +kernel
theorem dX12_laysHalves_46 : decode cX12_laysHalves 46 = .ok (.iload_n 2, 1) := by decide +kernel
theorem dX12_laysHalves_47 : decode cX12_laysHalves 47 = .ok (.iload_n 1, 1) := by decide +kernel
theorem dX12_laysHalves_48 : decode cX12_laysHalves 48 = .ok (.iconst 2, 1) := by decide +kernel
theorem dX12_laysHalves_49 : decode cX12_laysHalves 49 = .ok (.idiv, 1) := by decide +kernel
theorem dX12_laysHalves_50 : decode cX12_laysHalves 50 = .ok (.iconst 0, 1) := by decide +kernel
theorem dX12_laysHalves_51 : decode cX12_laysHalves 51 = .ok (.aload_n 0, 1) := by decide +kernel
theorem dX12_laysHalves_52 : decode cX12_laysHalves 52 = .ok (.getfield 108, 3) := by decide +kernel
theorem dX12_laysHalves_55 : decode cX12_laysHalves 55 = .ok (.iconst 0, 1) := by decide +kernel
theorem dX12_laysHalves_56 : decode cX12_laysHalves 56 = .ok (.iaload, 1) := by decide +kernel
theorem dX12_laysHalves_57 : decode cX12_laysHalves 57 = .ok (.iload_n 3, 1) := by decide +kernel
theorem dX12_laysHalves_58 : decode cX12_laysHalves 58 = .ok (.iadd, 1) := by decide +kernel
theorem dX12_laysHalves_59 : decode cX12_laysHalves 59 = .ok (.invokevirtual 373, 3) := by decide +kernel
theorem dX12_laysHalves_62 : decode cX12_laysHalves 62 = .ok (.iadd, 1) := by decide +kernel
theorem dX12_laysHalves_63 : decode cX12_laysHalves 63 = .ok (.invokestatic 284, 3) := by decide +kernel
theorem dX12_laysHalves_66 : decode cX12_laysHalves 66 = .ok (.istore_n 2, 1) := by decide +kernel
theorem dX12_laysHalves_67 : decode cX12_laysHalves 67 = .ok (.iinc 3 1, 3) := by decide +kernel
theorem dX12_laysHalves_70 : decode cX12_laysHalves 70 = .ok (.goto (-58), 3) := by decide +kernel
theorem dX12_laysHalves_73 : decode cX12_laysHalves 73 = .ok (.iinc 1 1, 3) := by decide +kernel
theorem dX12_laysHalves_76 : decode cX12_laysHalves 76 = .ok (.goto (-74), 3) := by decide +kernel
theorem dX12_laysHalves_79 : decode cX12_laysHalves 79 = .ok (.return_, 1) := by decide +kernel
theorem dX12_say_0 : decode cX12_say 0 = .ok (.aload_n 0, 1) := by decide +kernel
theorem dX12_say_1 : decode cX12_say 1 = .ok (.iconst 0, 1) := by decide +kernel
theorem dX12_say_2 : decode cX12_say 2 = .ok (.putfield 133, 3) := by decide +kernel
theorem dX12_say_5 : decode cX12_say 5 = .ok (.iload_n 1, 1) := by decide +kernel
theorem dX12_say_6 : decode cX12_say 6 = .ok (.iconst 0, 1) := by decide +kernel
theorem dX12_say_7 : decode cX12_say 7 = .ok (.bipush 30, 2) := by decide +kernel
theorem dX12_say_9 : decode cX12_say 9 = .ok (.invokestatic 253, 3) := by decide +kernel
theorem dX12_say_12 : decode cX12_say 12 = .ok (.ifCond .eq 14, 3) := by decide +kernel
theorem dX12_say_15 : decode cX12_say 15 = .ok (.aload_n 0, 1) := by decide +kernel
theorem dX12_say_16 : decode cX12_say 16 = .ok (.getfield 99, 3) := by decide +kernel
theorem dX12_say_19 : decode cX12_say 19 = .ok (.iconst 0, 1) := by decide +kernel
theorem dX12_say_20 : decode cX12_say 20 = .ok (.iaload, 1) := by decide +kernel
theorem dX12_say_21 : decode cX12_say 21 = .ok (.bipush 8, 2) := by decide +kernel
theorem dX12_say_23 : decode cX12_say 23 = .ok (.if_icmp .ne 5, 3) := by decide +kernel
theorem dX12_say_26 : decode cX12_say 26 = .ok (.iconst 0, 1) := by decide +kernel
theorem dX12_say_27 : decode cX12_say 27 = .ok (.ireturn, 1) := by decide +kernel
theorem dX12_say_28 : decode cX12_say 28 = .ok (.aload_n 0, 1) := by decide +kernel
theorem dX12_say_29 : decode cX12_say 29 = .ok (.getfield 102, 3) := by decide +kernel
theorem dX12_say_32 : decode cX12_say 32 = .ok (.aload_n 0, 1) := by decide +kernel
theorem dX12_say_33 : decode cX12_say 33 = .ok (.getfield 99, 3) := by decide +kernel
theorem dX12_say_36 : decode cX12_say 36 = .ok (.iconst 0, 1) := by decide +kernel
theorem dX12_say_37 : decode cX12_say 37 = .ok (.iaload, 1) := by decide +kernel
theorem dX12_say_38 : decode cX12_say 38 = .ok (.iload_n 1, 1) := by decide +kernel
theorem dX12_say_39 : decode cX12_say 39 = .ok (.iastore, 1) := by decide +kernel
theorem dX12_say_40 : decode cX12_say 40 = .ok (.aload_n 0, 1) := by decide +kernel
theorem dX12_say_41 : decode cX12_say 41 = .ok (.getfield 105, 3) := by decide +kernel
theorem dX12_say_44 : decode cX12_say 44 = .ok (.aload_n 0, 1) := by decide +kernel
theorem dX12_say_45 : decode cX12_say 45 = .ok (.getfield 99, 3) := by decide +kernel
theorem dX12_say_48 : decode cX12_say 48 = .ok (.iconst 0, 1) := by decide +kernel
theorem dX12_say_49 : decode cX12_say 49 = .ok (.iaload, 1) := by decide +kernel
theorem dX12_say_50 : decode cX12_say 50 = .ok (.iload_n 2, 1) := by decide +kernel
theorem dX12_say_51 : decode cX12_say 51 = .ok (.bastore, 1) := by decide +kernel
theorem dX12_say_52 : decode cX12_say 52 = .ok (.aload_n 0, 1) := by decide +kernel
theorem dX12_say_53 : decode cX12_say 53 = .ok (.getfield 99, 3) := by decide +kernel
theorem dX12_say_56 : decode cX12_say 56 = .ok (.iconst 0, 1) := by decide +kernel
theorem dX12_say_57 : decode cX12_say 57 = .ok (.dup2, 1) := by decide +kernel
theorem dX12_say_58 : decode cX12_say 58 = .ok (.iaload, 1) := by decide +kernel
theorem dX12_say_59 : decode cX12_say 59 = .ok (.iconst 1, 1) := by decide +kernel
theorem dX12_say_60 : decode cX12_say 60 = .ok (.iadd, 1) := by decide +kernel
theorem dX12_say_61 : decode cX12_say 61 = .ok (.iastore, 1) := by decide +kernel
theorem dX12_say_62 : decode cX12_say 62 = .ok (.iconst 1, 1) := by decide +kernel
theorem dX12_say_63 : decode cX12_say 63 = .ok (.ireturn, 1) := by decide +kernel
theorem dX12_isAsSaid_0 : decode cX12_isAsSaid 0 = .ok (.iconst 0, 1) := by decide +kernel
theorem dX12_isAsSaid_1 : decode cX12_isAsSaid 1 = .ok (.istore_n 2, 1) := by decide +kernel
theorem dX12_isAsSaid_2 : decode cX12_isAsSaid 2 = .ok (.iload_n 2, 1) := by decide +kernel
theorem dX12_isAsSaid_3 : decode cX12_isAsSaid 3 = .ok (.aload_n 0, 1) := by decide +kernel
theorem dX12_isAsSaid_4 : decode cX12_isAsSaid 4 = .ok (.getfield 99, 3) := by decide +kernel
theorem dX12_isAsSaid_7 : decode cX12_isAsSaid 7 = .ok (.iconst 0, 1) := by decide +kernel
theorem dX12_isAsSaid_8 : decode cX12_isAsSaid 8 = .ok (.iaload, 1) := by decide +kernel
theorem dX12_isAsSaid_9 : decode cX12_isAsSaid 9 = .ok (.if_icmp .ge 36, 3) := by decide +kernel
theorem dX12_isAsSaid_12 : decode cX12_isAsSaid 12 = .ok (.aload_n 0, 1) := by decide +kernel
theorem dX12_isAsSaid_13 : decode cX12_isAsSaid 13 = .ok (.getfield 126, 3) := by decide +kernel
theorem dX12_isAsSaid_16 : decode cX12_isAsSaid 16 = .ok (.bipush 31, 2) := by decide +kernel
theorem dX12_isAsSaid_18 : decode cX12_isAsSaid 18 = .ok (.iload_n 1, 1) := by decide +kernel
theorem dX12_isAsSaid_19 : decode cX12_isAsSaid 19 = .ok (.imul, 1) := by decide +kernel
theorem dX12_isAsSaid_20 : decode cX12_isAsSaid 20 = .ok (.aload_n 0, 1) := by decide +kernel
theorem dX12_isAsSaid_21 : decode cX12_isAsSaid 21 = .ok (.getfield 102, 3) := by decide +kernel
theorem dX12_isAsSaid_24 : decode cX12_isAsSaid 24 = .ok (.iload_n 2, 1) := by decide +kernel
theorem dX12_isAsSaid_25 : decode cX12_isAsSaid 25 = .ok (.iaload, 1) := by decide +kernel
theorem dX12_isAsSaid_26 : decode cX12_isAsSaid 26 = .ok (.iadd, 1) := by decide +kernel
theorem dX12_isAsSaid_27 : decode cX12_isAsSaid 27 = .ok (.baload, 1) := by decide +kernel
theorem dX12_isAsSaid_28 : decode cX12_isAsSaid 28 = .ok (.aload_n 0, 1) := by decide +kernel
theorem dX12_isAsSaid_29 : decode cX12_isAsSaid 29 = .ok (.getfield 105, 3) := by decide +kernel
theorem dX12_isAsSaid_32 : decode cX12_isAsSaid 32 = .ok (.iload_n 2, 1) := by decide +kernel
theorem dX12_isAsSaid_33 : decode cX12_isAsSaid 33 = .ok (.baload, 1) := by decide +kernel
theorem dX12_isAsSaid_34 : decode cX12_isAsSaid 34 = .ok (.if_icmp .eq 5, 3) := by decide +kernel
theorem dX12_isAsSaid_37 : decode cX12_isAsSaid 37 = .ok (.iconst 0, 1) := by decide +kernel
theorem dX12_isAsSaid_38 : decode cX12_isAsSaid 38 = .ok (.ireturn, 1) := by decide +kernel
theorem dX12_isAsSaid_39 : decode cX12_isAsSaid 39 = .ok (.iinc 2 1, 3) := by decide +kernel
theorem dX12_isAsSaid_42 : decode cX12_isAsSaid 42 = .ok (.goto (-40), 3) := by decide +kernel
theorem dX12_isAsSaid_45 : decode cX12_isAsSaid 45 = .ok (.iconst 1, 1) := by decide +kernel
theorem dX12_isAsSaid_46 : decode cX12_isAsSaid 46 = .ok (.ireturn, 1) := by decide +kernel
theorem dX12_wholes_0 : decode cX12_wholes 0 = .ok (.aload_n 0, 1) := by decide +kernel
theorem dX12_wholes_1 : decode cX12_wholes 1 = .ok (.iconst 0, 1) := by decide +kernel
theorem dX12_wholes_2 : decode cX12_wholes 2 = .ok (.putfield 133, 3) := by decide +kernel
theorem dX12_wholes_5 : decode cX12_wholes 5 = .ok (.iload_n 1, 1) := by decide +kernel
theorem dX12_wholes_6 : decode cX12_wholes 6 = .ok (.iconst 0, 1) := by decide +kernel
theorem dX12_wholes_7 : decode cX12_wholes 7 = .ok (.iconst 2, 1) := by decide +kernel
theorem dX12_wholes_8 : decode cX12_wholes 8 = .ok (.invokestatic 253, 3) := by decide +kernel
theorem dX12_wholes_11 : decode cX12_wholes 11 = .ok (.ifCond .ne 5, 3) := by decide +kernel
theorem dX12_wholes_14 : decode cX12_wholes 14 = .ok (.iconst (-1), 1) := by decide +kernel
theorem dX12_wholes_15 : decode cX12_wholes 15 = .ok (.ireturn, 1) := by decide +kernel
theorem dX12_wholes_16 : decode cX12_wholes 16 = .ok (.aload_n 0, 1) := by decide +kernel
theorem dX12_wholes_17 : decode cX12_wholes 17 = .ok (.invokevirtual 451, 3) := by decide +kernel
theorem dX12_wholes_20 : decode cX12_wholes 20 = .ok (.iconst 0, 1) := by decide +kernel
theorem dX12_wholes_21 : decode cX12_wholes 21 = .ok (.istore_n 2, 1) := by decide +kernel
theorem dX12_wholes_22 : decode cX12_wholes 22 = .ok (.iconst (-1), 1) := by decide +kernel
theorem dX12_wholes_23 : decode cX12_wholes 23 = .ok (.istore_n 3, 1) := by decide +kernel
theorem dX12_wholes_24 : decode cX12_wholes 24 = .ok (.iconst (-1), 1) := by decide +kernel
theorem dX12_wholes_25 : decode cX12_wholes 25 = .ok (.istore 4, 2) := by decide +kernel
theorem dX12_wholes_27 : decode cX12_wholes 27 = .ok (.iconst 2, 1) := by decide +kernel
theorem dX12_wholes_28 : decode cX12_wholes 28 = .ok (.istore 5, 2) := by decide +kernel
theorem dX12_wholes_30 : decode cX12_wholes 30 = .ok (.iload 5, 2) := by decide +kernel
theorem dX12_wholes_32 : decode cX12_wholes 32 = .ok (.bipush 61, 2) := by decide +kernel
theorem dX12_wholes_34 : decode cX12_wholes 34 = .ok (.if_icmp .ge 35, 3) := by decide +kernel
theorem dX12_wholes_37 : decode cX12_wholes 37 = .ok (.aload_n 0, 1) := by decide +kernel
theorem dX12_wholes_38 : decode cX12_wholes 38 = .ok (.iload 5, 2) := by decide +kernel
theorem dX12_wholes_40 : decode cX12_wholes 40 = .ok (.invokevirtual 454, 3) := by decide +kernel
theorem dX12_wholes_43 : decode cX12_wholes 43 = .ok (.ifCond .ne 6, 3) := by decide +kernel
theorem dX12_wholes_46 : decode cX12_wholes 46 = .ok (.goto 17, 3) := by decide +kernel
theorem dX12_wholes_49 : decode cX12_wholes 49 = .ok (.iinc 2 1, 3) := by decide +kernel
theorem dX12_wholes_52 : decode cX12_wholes 52 = .ok (.iload_n 3, 1) := by decide +kernel
theorem dX12_wholes_53 : decode cX12_wholes 53 = .ok (.ifCond .ge 6, 3) := by decide +kernel
theorem dX12_wholes_56 : decode cX12_wholes 56 = .ok (.iload 5, 2) := by decide +kernel
theorem dX12_wholes_58 : decode cX12_wholes 58 = .ok (.istore_n 3, 1) := by decide +kernel
theorem dX12_wholes_59 : decode cX12_wholes 59 = .ok (.iload 5, 2) := by decide +kernel
theorem dX12_wholes_61 : decode cX12_wholes 61 = .ok (.istore 4, 2) := by decide +kernel
theorem dX12_wholes_63 : decode cX12_wholes 63 = .ok (.iinc 5 1, 3) := by decide +kernel
theorem dX12_wholes_66 : decode cX12_wholes 66 = .ok (.goto (-36), 3) := by decide +kernel
theorem dX12_wholes_69 : decode cX12_wholes 69 = .ok (.iload_n 1, 1) := by decide +kernel
theorem dX12_wholes_70 : decode cX12_wholes 70 = .ok (.ifCond .ne 7, 3) := by decide +kernel
theorem dX12_wholes_73 : decode cX12_wholes 73 = .ok (.iload_n 2, 1) := by decide +kernel
theorem dX12_wholes_74 : decode cX12_wholes 74 = .ok (.goto 14, 3) := by decide +kernel
theorem dX12_wholes_77 : decode cX12_wholes 77 = .ok (.iload_n 1, 1) := by decide +kernel
theorem dX12_wholes_78 : decode cX12_wholes 78 = .ok (.iconst 1, 1) := by decide +kernel
theorem dX12_wholes_79 : decode cX12_wholes 79 = .ok (.if_icmp .ne 7, 3) := by decide +kernel
theorem dX12_wholes_82 : decode cX12_wholes 82 = .ok (.iload_n 3, 1) := by decide +kernel
theorem dX12_wholes_83 : decode cX12_wholes 83 = .ok (.goto 5, 3) := by decide +kernel
theorem dX12_wholes_86 : decode cX12_wholes 86 = .ok (.iload 4, 2) := by decide +kernel
theorem dX12_wholes_88 : decode cX12_wholes 88 = .ok (.ireturn, 1) := by decide +kernel
theorem dX12_ask_0 : decode cX12_ask 0 = .ok (.aload_n 0, 1) := by decide +kernel
theorem dX12_ask_1 : decode cX12_ask 1 = .ok (.iconst 0, 1) := by decide +kernel
theorem dX12_ask_2 : decode cX12_ask 2 = .ok (.putfield 133, 3) := by decide +kernel
theorem dX12_ask_5 : decode cX12_ask 5 = .ok (.aload_n 0, 1) := by decide +kernel
theorem dX12_ask_6 : decode cX12_ask 6 = .ok (.iconst 0, 1) := by decide +kernel
theorem dX12_ask_7 : decode cX12_ask 7 = .ok (.invokevirtual 457, 3) := by decide +kernel
theorem dX12_ask_10 : decode cX12_ask 10 = .ok (.istore_n 1, 1) := by decide +kernel
theorem dX12_ask_11 : decode cX12_ask 11 = .ok (.iload_n 1, 1) := by decide +kernel
theorem dX12_ask_12 : decode cX12_ask 12 = .ok (.istore_n 2, 1) := by decide +kernel
theorem dX12_ask_13 : decode cX12_ask 13 = .ok (.iconst (-1), 1) := by decide +kernel
theorem dX12_ask_14 : decode cX12_ask 14 = .ok (.istore_n 3, 1) := by decide +kernel
theorem dX12_ask_15 : decode cX12_ask 15 = .ok (.iconst 0, 1) := by decide +kernel
theorem dX12_ask_16 : decode cX12_ask 16 = .ok (.istore 4, 2) := by decide +kernel
theorem dX12_ask_18 : decode cX12_ask 18 = .ok (.iload 4, 2) := by decide +kernel
theorem dX12_ask_20 : decode cX12_ask 20 = .ok (.bipush 30, 2) := by decide +kernel
theorem dX12_ask_22 : decode cX12_ask 22 = .ok (.if_icmp .gt 89, 3) := by decide +kernel
theorem dX12_ask_25 : decode cX12_ask 25 = .ok (.iconst 0, 1) := by decide +kernel
theorem dX12_ask_26 : decode cX12_ask 26 = .ok (.istore 5, 2) := by decide +kernel
theorem dX12_ask_28 : decode cX12_ask 28 = .ok (.iconst 2, 1) := by decide +kernel
theorem dX12_ask_29 : decode cX12_ask 29 = .ok (.istore 6, 2) := by decide +kernel
theorem dX12_ask_31 : decode cX12_ask 31 = .ok (.iload 6, 2) := by decide +kernel
theorem dX12_ask_33 : decode cX12_ask 33 = .ok (.bipush 61, 2) := by decide +kernel
theorem dX12_ask_35 : decode cX12_ask 35 = .ok (.if_icmp .ge 44, 3) := by decide +kernel
theorem dX12_ask_38 : decode cX12_ask 38 = .ok (.iload 5, 2) := by decide +kernel
theorem dX12_ask_40 : decode cX12_ask 40 = .ok (.aload_n 0, 1) := by decide +kernel
theorem dX12_ask_41 : decode cX12_ask 41 = .ok (.iload 6, 2) := by decide +kernel
theorem dX12_ask_43 : decode cX12_ask 43 = .ok (.invokevirtual 454, 3) := by decide +kernel
theorem dX12_ask_46 : decode cX12_ask 46 = .ok (.ifCond .eq 23, 3) := by decide +kernel
theorem dX12_ask_49 : decode cX12_ask 49 = .ok (.aload_n 0, 1) := by decide +kernel
theorem dX12_ask_50 : decode cX12_ask 50 = .ok (.getfield 126, 3) := by decide +kernel
theorem dX12_ask_53 : decode cX12_ask 53 = .ok (.bipush 31, 2) := by decide +kernel
theorem dX12_ask_55 : decode cX12_ask 55 = .ok (.iload 6, 2) := by decide +kernel
theorem dX12_ask_57 : decode cX12_ask 57 = .ok (.imul, 1) := by decide +kernel
theorem dX12_ask_58 : decode cX12_ask 58 = .ok (.iload 4, 2) := by decide +kernel
theorem dX12_ask_60 : decode cX12_ask 60 = .ok (.iadd, 1) := by decide +kernel
theorem dX12_ask_61 : decode cX12_ask 61 = .ok (.baload, 1) := by decide +kernel
theorem dX12_ask_62 : decode cX12_ask 62 = .ok (.ifCond .eq 7, 3) := by decide +kernel
theorem dX12_ask_65 : decode cX12_ask 65 = .ok (.iconst 1, 1) := by decide +kernel
theorem dX12_ask_66 : decode cX12_ask 66 = .ok (.goto 4, 3) := by decide +kernel
theorem dX12_ask_69 : decode cX12_ask 69 = .ok (.iconst 0, 1) := by decide +kernel
theorem dX12_ask_70 : decode cX12_ask 70 = .ok (.iadd, 1) := by decide +kernel
theorem dX12_ask_71 : decode cX12_ask 71 = .ok (.istore 5, 2) := by decide +kernel
theorem dX12_ask_73 : decode cX12_ask 73 = .ok (.iinc 6 1, 3) := by decide +kernel
theorem dX12_ask_76 : decode cX12_ask 76 = .ok (.goto (-45), 3) := by decide +kernel
theorem dX12_ask_79 : decode cX12_ask 79 = .ok (.iload 5, 2) := by decide +kernel
theorem dX12_ask_81 : decode cX12_ask 81 = .ok (.iload_n 1, 1) := by decide +kernel
theorem dX12_ask_82 : decode cX12_ask 82 = .ok (.iload 5, 2) := by decide +kernel
theorem dX12_ask_84 : decode cX12_ask 84 = .ok (.isub, 1) := by decide +kernel
theorem dX12_ask_85 : decode cX12_ask 85 = .ok (.invokestatic 360, 3) := by decide +kernel
theorem dX12_ask_88 : decode cX12_ask 88 = .ok (.istore 5, 2) := by decide +kernel
theorem dX12_ask_90 : decode cX12_ask 90 = .ok (.iload 5, 2) := by decide +kernel
theorem dX12_ask_92 : decode cX12_ask 92 = .ok (.iload_n 2, 1) := by decide +kernel
theorem dX12_ask_93 : decode cX12_ask 93 = .ok (.if_icmp .lt 6, 3) := by decide +kernel
theorem dX12_ask_96 : decode cX12_ask 96 = .ok (.goto 9, 3) := by decide +kernel
theorem dX12_ask_99 : decode cX12_ask 99 = .ok (.iload 5, 2) := by decide +kernel
theorem dX12_ask_101 : decode cX12_ask 101 = .ok (.istore_n 2, 1) := by decide +kernel
theorem dX12_ask_102 : decode cX12_ask 102 = .ok (.iload 4, 2) := by decide +kernel
theorem dX12_ask_104 : decode cX12_ask 104 = .ok (.istore_n 3, 1) := by decide +kernel
theorem dX12_ask_105 : decode cX12_ask 105 = .ok (.iinc 4 1, 3) := by decide +kernel
theorem dX12_ask_108 : decode cX12_ask 108 = .ok (.goto (-90), 3) := by decide +kernel
theorem dX12_ask_111 : decode cX12_ask 111 = .ok (.iload_n 3, 1) := by decide +kernel
theorem dX12_ask_112 : decode cX12_ask 112 = .ok (.ireturn, 1) := by decide +kernel
theorem dX12_chance_0 : decode cX12_chance 0 = .ok (.aload_n 0, 1) := by decide +kernel
theorem dX12_chance_1 : decode cX12_chance 1 = .ok (.iconst 0, 1) := by decide +kernel
theorem dX12_chance_2 : decode cX12_chance 2 = .ok (.putfield 133, 3) := by decide +kernel
theorem dX12_chance_5 : decode cX12_chance 5 = .ok (.aload_n 0, 1) := by decide +kernel
theorem dX12_chance_6 : decode cX12_chance 6 = .ok (.iload_n 1, 1) := by decide +kernel
theorem dX12_chance_7 : decode cX12_chance 7 = .ok (.invokevirtual 392, 3) := by decide +kernel
theorem dX12_chance_10 : decode cX12_chance 10 = .ok (.ifCond .eq 23, 3) := by decide +kernel
theorem dX12_chance_13 : decode cX12_chance 13 = .ok (.iload_n 2, 1) := by decide +kernel
theorem dX12_chance_14 : decode cX12_chance 14 = .ok (.iconst 1, 1) := by decide +kernel
theorem dX12_chance_15 : decode cX12_chance 15 = .ok (.bipush 6, 2) := by decide +kernel
theorem dX12_chance_17 : decode cX12_chance 17 = .ok (.invokestatic 253, 3) := by decide +kernel
theorem dX12_chance_20 : decode cX12_chance 20 = .ok (.ifCond .eq 13, 3) := by decide +kernel
theorem dX12_chance_23 : decode cX12_chance 23 = .ok (.iload_n 3, 1) := by decide +kernel
theorem dX12_chance_24 : decode cX12_chance 24 = .ok (.iconst 0, 1) := by decide +kernel
theorem dX12_chance_25 : decode cX12_chance 25 = .ok (.bipush 10, 2) := by decide +kernel
theorem dX12_chance_27 : decode cX12_chance 27 = .ok (.invokestatic 253, 3) := by decide +kernel
theorem dX12_chance_30 : decode cX12_chance 30 = .ok (.ifCond .ne 5, 3) := by decide +kernel
theorem dX12_chance_33 : decode cX12_chance 33 = .ok (.iconst (-1), 1) := by decide +kernel
theorem dX12_chance_34 : decode cX12_chance 34 = .ok (.ireturn, 1) := by decide +kernel
theorem dX12_chance_35 : decode cX12_chance 35 = .ok (.lconst 0, 1) := by decide +kernel
theorem dX12_chance_36 : decode cX12_chance 36 = .ok (.lstore 4, 2) := by decide +kernel
theorem dX12_chance_38 : decode cX12_chance 38 = .ok (.lconst 1, 1) := by decide +kernel
theorem dX12_chance_39 : decode cX12_chance 39 = .ok (.lstore 6, 2) := by decide +kernel
theorem dX12_chance_41 : decode cX12_chance 41 = .ok (.iconst 0, 1) := by decide +kernel
theorem dX12_chance_42 : decode cX12_chance 42 = .ok (.istore 8, 2) := by decide +kernel
theorem dX12_chance_44 : decode cX12_chance 44 = .ok (.iload 8, 2) := by decide +kernel
theorem dX12_chance_46 : decode cX12_chance 46 = .ok (.iload_n 2, 1) := by decide +kernel
theorem dX12_chance_47 : decode cX12_chance 47 = .ok (.if_icmp .ge 17, 3) := by decide +kernel
theorem dX12_chance_50 : decode cX12_chance 50 = .ok (.lload 6, 2) := by decide +kernel
theorem dX12_chance_52 : decode cX12_chance 52 = .ok (.ldc2_w 460, 3) := by decide +kernel
theorem dX12_chance_55 : decode cX12_chance 55 = .ok (.lmul, 1) := by decide +kernel
theorem dX12_chance_56 : decode cX12_chance 56 = .ok (.lstore 6, 2) := by decide +kernel
theorem dX12_chance_58 : decode cX12_chance 58 = .ok (.iinc 8 1, 3) := by decide +kernel
theorem dX12_chance_61 : decode cX12_chance 61 = .ok (.goto (-17), 3) := by decide +kernel
theorem dX12_chance_64 : decode cX12_chance 64 = .ok (.aload_n 0, 1) := by decide +kernel
theorem dX12_chance_65 : decode cX12_chance 65 = .ok (.getfield 108, 3) := by decide +kernel
theorem dX12_chance_68 : decode cX12_chance 68 = .ok (.iconst 0, 1) := by decide +kernel
theorem dX12_chance_69 : decode cX12_chance 69 = .ok (.aload_n 0, 1) := by decide +kernel
theorem dX12_chance_70 : decode cX12_chance 70 = .ok (.getfield 114, 3) := by decide +kernel
theorem dX12_chance_73 : decode cX12_chance 73 = .ok (.iconst 0, 1) := by decide +kernel
theorem dX12_chance_74 : decode cX12_chance 74 = .ok (.invokestatic 401, 3) := by decide +kernel
theorem dX12_chance_77 : decode cX12_chance 77 = .ok (.iconst 0, 1) := by decide +kernel
theorem dX12_chance_78 : decode cX12_chance 78 = .ok (.istore 8, 2) := by decide +kernel
theorem dX12_chance_80 : decode cX12_chance 80 = .ok (.iload 8, 2) := by decide +kernel
theorem dX12_chance_82 : decode cX12_chance 82 = .ok (.iconst 1, 1) := by decide +kernel
theorem dX12_chance_83 : decode cX12_chance 83 = .ok (.iload_n 2, 1) := by decide +kernel
theorem dX12_chance_84 : decode cX12_chance 84 = .ok (.ishl, 1) := by decide +kernel
theorem dX12_chance_85 : decode cX12_chance 85 = .ok (.if_icmp .ge 139, 3) := by decide +kernel
theorem dX12_chance_88 : decode cX12_chance 88 = .ok (.lconst 1, 1) := by decide +kernel
theorem dX12_chance_89 : decode cX12_chance 89 = .ok (.lstore 9, 2) := by decide +kernel
theorem dX12_chance_91 : decode cX12_chance 91 = .ok (.iconst 0, 1) := by decide +kernel
theorem dX12_chance_92 : decode cX12_chance 92 = .ok (.istore 11, 2) := by decide +kernel
theorem dX12_chance_94 : decode cX12_chance 94 = .ok (.iconst 0, 1) := by decide +kernel
theorem dX12_chance_95 : decode cX12_chance 95 = .ok (.istore 12, 2) := by decide +kernel
theorem dX12_chance_97 : decode cX12_chance 97 = .ok (.iload 12, 2) := by decide +kernel
theorem dX12_chance_99 : decode cX12_chance 99 = .ok (.iload_n 2, 1) := by decide +kernel
theorem dX12_chance_100 : decode cX12_chance 100 = .ok (.if_icmp .ge 88, 3) := by decide +kernel
theorem dX12_chance_103 : decode cX12_chance 103 = .ok (.iload 8, 2) := by decide +kernel
theorem dX12_chance_105 : decode cX12_chance 105 = .ok (.iload 12, 2) := by decide +kernel
theorem dX12_chance_107 : decode cX12_chance 107 = .ok (.ishr, 1) := by decide +kernel
theorem dX12_chance_108 : decode cX12_chance 108 = .ok (.iconst 1, 1) := by decide +kernel
theorem dX12_chance_109 : decode cX12_chance 109 = .ok (.iand, 1) := by decide +kernel
theorem dX12_chance_110 : decode cX12_chance 110 = .ok (.iconst 1, 1) := by decide +kernel
theorem dX12_chance_111 : decode cX12_chance 111 = .ok (.if_icmp .ne 7, 3) := by decide +kernel
theorem dX12_chance_114 : decode cX12_chance 114 = .ok (.iconst 1, 1) := by decide +kernel
theorem dX12_chance_115 : decode cX12_chance 115 = .ok (.goto 4, 3) := by decide +kernel
theorem dX12_chance_118 : decode cX12_chance 118 = .ok (.iconst 0, 1) := by decide +kernel
theorem dX12_chance_119 : decode cX12_chance 119 = .ok (.istore 13, 2) := by decide +kernel
theorem dX12_chance_121 : decode cX12_chance 121 = .ok (.lload 9, 2) := by decide +kernel
theorem dX12_chance_123 : decode cX12_chance 123 = .ok (.iload 13, 2) := by decide +kernel
theorem dX12_chance_125 : decode cX12_chance 125 = .ok (.ifCond .eq 8, 3) := by decide +kernel
theorem dX12_chance_128 : decode cX12_chance 128 = .ok (.iload_n 3, 1) := by decide +kernel
theorem dX12_chance_129 : decode cX12_chance 129 = .ok (.i2l, 1) := by decide +kernel
theorem dX12_chance_130 : decode cX12_chance 130 = .ok (.goto 8, 3) := by decide +kernel
theorem dX12_chance_133 : decode cX12_chance 133 = .ok (.bipush 10, 2) := by decide +kernel
theorem dX12_chance_135 : decode cX12_chance 135 = .ok (.iload_n 3, 1) := by decide +kernel
theorem dX12_chance_136 : decode cX12_chance 136 = .ok (.isub, 1) := by decide +kernel
theorem dX12_chance_137 : decode cX12_chance 137 = .ok (.i2l, 1) := by decide +kernel
theorem dX12_chance_138 : decode cX12_chance 138 = .ok (.lmul, 1) := by decide +kernel
theorem dX12_chance_139 : decode cX12_chance 139 = .ok (.lstore 9, 2) := by decide +kernel
theorem dX12_chance_141 : decode cX12_chance 141 = .ok (.iload 13, 2) := by decide +kernel
theorem dX12_chance_143 : decode cX12_chance 143 = .ok (.ifCond .eq 16, 3) := by decide +kernel
theorem dX12_chance_146 : decode cX12_chance 146 = .ok (.aload_n 0, 1) := by decide +kernel
theorem dX12_chance_147 : decode cX12_chance 147 = .ok (.getfield 108, 3) := by decide +kernel
theorem dX12_chance_150 : decode cX12_chance 150 = .ok (.iconst 0, 1) := by decide +kernel
theorem dX12_chance_151 : decode cX12_chance 151 = .ok (.dup2, 1) := by decide +kernel
theorem dX12_chance_152 : decode cX12_chance 152 = .ok (.iaload, 1) := by decide +kernel
theorem dX12_chance_153 : decode cX12_chance 153 = .ok (.iconst 1, 1) := by decide +kernel
theorem dX12_chance_154 : decode cX12_chance 154 = .ok (.iadd, 1) := by decide +kernel
theorem dX12_chance_155 : decode cX12_chance 155 = .ok (.iastore, 1) := by decide +kernel
theorem dX12_chance_156 : decode cX12_chance 156 = .ok (.goto 8, 3) := by decide +kernel
theorem dX12_chance_159 : decode cX12_chance 159 = .ok (.aload_n 0, 1) := by decide +kernel
theorem dX12_chance_160 : decode cX12_chance 160 = .ok (.invokevirtual 421, 3) := by decide +kernel
theorem dX12_chance_163 : decode cX12_chance 163 = .ok (.pop, 1) := by decide +kernel
theorem dX12_chance_164 : decode cX12_chance 164 = .ok (.iload 11, 2) := by decide +kernel
theorem dX12_chance_166 : decode cX12_chance 166 = .ok (.iload 13, 2) := by decide +kernel
theorem dX12_chance_168 : decode cX12_chance 168 = .ok (.ifCond .eq 7, 3) := by decide +kernel
theorem dX12_chance_171 : decode cX12_chance 171 = .ok (.iconst 0, 1) := by decide +kernel
theorem dX12_chance_172 : decode cX12_chance 172 = .ok (.goto 7, 3) := by decide +kernel
theorem dX12_chance_175 : decode cX12_chance 175 = .ok (.aload_n 0, 1) := by decide +kernel
theorem dX12_chance_176 : decode cX12_chance 176 = .ok (.getfield 380, 3) := by decide +kernel
theorem dX12_chance_179 : decode cX12_chance 179 = .ok (.ior, 1) := by decide +kernel
theorem dX12_chance_180 : decode cX12_chance 180 = .ok (.istore 11, 2) := by decide +kernel
theorem dX12_chance_182 : decode cX12_chance 182 = .ok (.iinc 12 1, 3) := by decide +kernel
theorem dX12_chance_185 : decode cX12_chance 185 = .ok (.goto (-88), 3) := by decide +kernel
theorem dX12_chance_188 : decode cX12_chance 188 = .ok (.iload 11, 2) := by decide +kernel
theorem dX12_chance_190 : decode cX12_chance 190 = .ok (.iload_n 1, 1) := by decide +kernel
theorem dX12_chance_191 : decode cX12_chance 191 = .ok (.ishr, 1) := by decide +kernel
theorem dX12_chance_192 : decode cX12_chance 192 = .ok (.iconst 1, 1) := by decide +kernel
theorem dX12_chance_193 : decode cX12_chance 193 = .ok (.iand, 1) := by decide +kernel
theorem dX12_chance_194 : decode cX12_chance 194 = .ok (.iconst 1, 1) := by decide +kernel
theorem dX12_chance_195 : decode cX12_chance 195 = .ok (.if_icmp .ne 10, 3) := by decide +kernel
theorem dX12_chance_198 : decode cX12_chance 198 = .ok (.lload 4, 2) := by decide +kernel
theorem dX12_chance_200 : decode cX12_chance 200 = .ok (.lload 9, 2) := by decide +kernel
theorem dX12_chance_202 : decode cX12_chance 202 = .ok (.ladd, 1) := by decide +kernel
theorem dX12_chance_203 : decode cX12_chance 203 = .ok (.lstore 4, 2) := by decide +kernel
theorem dX12_chance_205 : decode cX12_chance 205 = .ok (.aload_n 0, 1) := by decide +kernel
theorem dX12_chance_206 : decode cX12_chance 206 = .ok (.getfield 114, 3) := by decide +kernel
theorem dX12_chance_209 : decode cX12_chance 209 = .ok (.iconst 0, 1) := by decide +kernel
theorem dX12_chance_210 : decode cX12_chance 210 = .ok (.aload_n 0, 1) := by decide +kernel
theorem dX12_chance_211 : decode cX12_chance 211 = .ok (.getfield 108, 3) := by decide +kernel
theorem dX12_chance_214 : decode cX12_chance 214 = .ok (.iconst 0, 1) := by decide +kernel
theorem dX12_chance_215 : decode cX12_chance 215 = .ok (.invokestatic 401, 3) := by decide +kernel
theorem dX12_chance_218 : decode cX12_chance 218 = .ok (.iinc 8 1, 3) := by decide +kernel
theorem dX12_chance_221 : decode cX12_chance 221 = .ok (.goto (-141), 3) := by decide +kernel
theorem dX12_chance_224 : decode cX12_chance 224 = .ok (.lload 4, 2) := by decide +kernel
theorem dX12_chance_226 : decode cX12_chance 226 = .ok (.ldc2_w 442, 3) := by decide +kernel
theorem dX12_chance_229 : decode cX12_chance 229 = .ok (.lmul, 1) := by decide +kernel
theorem dX12_chance_230 : decode cX12_chance 230 = .ok (.lload 6, 2) := by decide +kernel
theorem dX12_chance_232 : decode cX12_chance 232 = .ok (.ldiv, 1) := by decide +kernel
theorem dX12_chance_233 : decode cX12_chance 233 = .ok (.l2i, 1) := by decide +kernel
theorem dX12_chance_234 : decode cX12_chance 234 = .ok (.ireturn, 1) := by decide +kernel
theorem dX12_getsBy_0 : decode cX12_getsBy 0 = .ok (.iload_n 3, 1) := by decide +kernel
theorem dX12_getsBy_1 : decode cX12_getsBy 1 = .ok (.iconst 1, 1) := by decide +kernel
theorem dX12_getsBy_2 : decode cX12_getsBy 2 = .ok (.if_icmp .ne 18, 3) := by decide +kernel
theorem dX12_getsBy_5 : decode cX12_getsBy 5 = .ok (.iload 4, 2) := by decide +kernel
theorem dX12_getsBy_7 : decode cX12_getsBy 7 = .ok (.iconst 1, 1) := by decide +kernel
theorem dX12_getsBy_8 : decode cX12_getsBy 8 = .ok (.if_icmp .ne 8, 3) := by decide +kernel
theorem dX12_getsBy_11 : decode cX12_getsBy 11 = .ok (.iload_n 0, 1) := by decide +kernel
theorem dX12_getsBy_12 : decode cX12_getsBy 12 = .ok (.ineg, 1) := by decide +kernel
theorem dX12_getsBy_13 : decode cX12_getsBy 13 = .ok (.goto 18, 3) := by decide +kernel
theorem dX12_getsBy_16 : decode cX12_getsBy 16 = .ok (.iload_n 1, 1) := by decide +kernel
theorem dX12_getsBy_17 : decode cX12_getsBy 17 = .ok (.goto 14, 3) := by decide +kernel
theorem dX12_getsBy_20 : decode cX12_getsBy 20 = .ok (.iload 4, 2) := by decide +kernel
theorem dX12_getsBy_22 : decode cX12_getsBy 22 = .ok (.iconst 1, 1) := by decide +kernel
theorem dX12_getsBy_23 : decode cX12_getsBy 23 = .ok (.if_icmp .ne 7, 3) := by decide +kernel
theorem dX12_getsBy_26 : decode cX12_getsBy 26 = .ok (.iload_n 2, 1) := by decide +kernel
theorem dX12_getsBy_27 : decode cX12_getsBy 27 = .ok (.goto 4, 3) := by decide +kernel
theorem dX12_getsBy_30 : decode cX12_getsBy 30 = .ok (.iconst 0, 1) := by decide +kernel
theorem dX12_getsBy_31 : decode cX12_getsBy 31 = .ok (.ireturn, 1) := by decide +kernel
theorem dX12_rests_0 : decode cX12_rests 0 = .ok (.aload_n 0, 1) := by decide +kernel
theorem dX12_rests_1 : decode cX12_rests 1 = .ok (.iload_n 1, 1) := by decide +kernel
theorem dX12_rests_2 : decode cX12_rests 2 = .ok (.iconst 0, 1) := by decide +kernel
theorem dX12_rests_3 : decode cX12_rests 3 = .ok (.bipush 9, 2) := by decide +kernel
theorem dX12_rests_5 : decode cX12_rests 5 = .ok (.invokestatic 253, 3) := by decide +kernel
theorem dX12_rests_8 : decode cX12_rests 8 = .ok (.ifCond .eq 33, 3) := by decide +kernel
theorem dX12_rests_11 : decode cX12_rests 11 = .ok (.iload_n 2, 1) := by decide +kernel
theorem dX12_rests_12 : decode cX12_rests 12 = .ok (.iconst 0, 1) := by decide +kernel
theorem dX12_rests_13 : decode cX12_rests 13 = .ok (.bipush 9, 2) := by decide +kernel
theorem dX12_rests_15 : decode cX12_rests 15 = .ok (.invokestatic 253, 3) := by decide +kernel
theorem dX12_rests_18 : decode cX12_rests 18 = .ok (.ifCond .eq 23, 3) := by decide +kernel
theorem dX12_rests_21 : decode cX12_rests 21 = .ok (.iload_n 3, 1) := by decide +kernel
theorem dX12_rests_22 : decode cX12_rests 22 = .ok (.iconst 0, 1) := by decide +kernel
theorem dX12_rests_23 : decode cX12_rests 23 = .ok (.bipush 9, 2) := by decide +kernel
theorem dX12_rests_25 : decode cX12_rests 25 = .ok (.invokestatic 253, 3) := by decide +kernel
theorem dX12_rests_28 : decode cX12_rests 28 = .ok (.ifCond .eq 13, 3) := by decide +kernel
theorem dX12_rests_31 : decode cX12_rests 31 = .ok (.iload 4, 2) := by decide +kernel
theorem dX12_rests_33 : decode cX12_rests 33 = .ok (.iconst (-1), 1) := by decide +kernel
theorem dX12_rests_34 : decode cX12_rests 34 = .ok (.if_icmp .lt 7, 3) := by decide +kernel
theorem dX12_rests_37 : decode cX12_rests 37 = .ok (.iconst 0, 1) := by decide +kernel
theorem dX12_rests_38 : decode cX12_rests 38 = .ok (.goto 4, 3) := by decide +kernel
theorem dX12_rests_41 : decode cX12_rests 41 = .ok (.iconst 1, 1) := by decide +kernel
theorem dX12_rests_42 : decode cX12_rests 42 = .ok (.putfield 133, 3) := by decide +kernel
theorem dX12_rests_45 : decode cX12_rests 45 = .ok (.aload_n 0, 1) := by decide +kernel
theorem dX12_rests_46 : decode cX12_rests 46 = .ok (.getfield 133, 3) := by decide +kernel
theorem dX12_rests_49 : decode cX12_rests 49 = .ok (.iconst 1, 1) := by decide +kernel
theorem dX12_rests_50 : decode cX12_rests 50 = .ok (.if_icmp .ne 5, 3) := by decide +kernel
theorem dX12_rests_53 : decode cX12_rests 53 = .ok (.iconst 0, 1) := by decide +kernel
theorem dX12_rests_54 : decode cX12_rests 54 = .ok (.ireturn, 1) := by decide +kernel
theorem dX12_rests_55 : decode cX12_rests 55 = .ok (.iconst 0, 1) := by decide +kernel
theorem dX12_rests_56 : decode cX12_rests 56 = .ok (.istore 5, 2) := by decide +kernel
theorem dX12_rests_58 : decode cX12_rests 58 = .ok (.iconst 0, 1) := by decide +kernel
theorem dX12_rests_59 : decode cX12_rests 59 = .ok (.istore 6, 2) := by decide +kernel
theorem dX12_rests_61 : decode cX12_rests 61 = .ok (.iload 6, 2) := by decide +kernel
theorem dX12_rests_63 : decode cX12_rests 63 = .ok (.iconst 4, 1) := by decide +kernel
theorem dX12_rests_64 : decode cX12_rests 64 = .ok (.if_icmp .ge 87, 3) := by decide +kernel
theorem dX12_rests_67 : decode cX12_rests 67 = .ok (.iload 6, 2) := by decide +kernel
theorem dX12_rests_69 : decode cX12_rests 69 = .ok (.iconst 2, 1) := by decide +kernel
theorem dX12_rests_70 : decode cX12_rests 70 = .ok (.idiv, 1) := by decide +kernel
theorem dX12_rests_71 : decode cX12_rests 71 = .ok (.istore 7, 2) := by decide +kernel
theorem dX12_rests_73 : decode cX12_rests 73 = .ok (.iload 6, 2) := by decide +kernel
theorem dX12_rests_75 : decode cX12_rests 75 = .ok (.iconst 2, 1) := by decide +kernel
theorem dX12_rests_76 : decode cX12_rests 76 = .ok (.irem, 1) := by decide +kernel
theorem dX12_rests_77 : decode cX12_rests 77 = .ok (.istore 8, 2) := by decide +kernel
theorem dX12_rests_79 : decode cX12_rests 79 = .ok (.iload_n 1, 1) := by decide +kernel
theorem dX12_rests_80 : decode cX12_rests 80 = .ok (.iload_n 2, 1) := by decide +kernel
theorem dX12_rests_81 : decode cX12_rests 81 = .ok (.iload_n 3, 1) := by decide +kernel
theorem dX12_rests_82 : decode cX12_rests 82 = .ok (.iconst 1, 1) := by decide +kernel
theorem dX12_rests_83 : decode cX12_rests 83 = .ok (.iload 7, 2) := by decide +kernel
theorem dX12_rests_85 : decode cX12_rests 85 = .ok (.isub, 1) := by decide +kernel
theorem dX12_rests_86 : decode cX12_rests 86 = .ok (.iload 8, 2) := by decide +kernel
theorem dX12_rests_88 : decode cX12_rests 88 = .ok (.invokestatic 462, 3) := by decide +kernel
theorem dX12_rests_91 : decode cX12_rests 91 = .ok (.iload_n 1, 1) := by decide +kernel
theorem dX12_rests_92 : decode cX12_rests 92 = .ok (.iload_n 2, 1) := by decide +kernel
theorem dX12_rests_93 : decode cX12_rests 93 = .ok (.iload_n 3, 1) := by decide +kernel
theorem dX12_rests_94 : decode cX12_rests 94 = .ok (.iload 7, 2) := by decide +kernel
theorem dX12_rests_96 : decode cX12_rests 96 = .ok (.iload 8, 2) := by decide +kernel
theorem dX12_rests_98 : decode cX12_rests 98 = .ok (.invokestatic 462, 3) := by decide +kernel
theorem dX12_rests_101 : decode cX12_rests 101 = .ok (.if_icmp .gt 44, 3) := by decide +kernel
theorem dX12_rests_104 : decode cX12_rests 104 = .ok (.iload_n 1, 1) := by decide +kernel
theorem dX12_rests_105 : decode cX12_rests 105 = .ok (.iload_n 2, 1) := by decide +kernel
theorem dX12_rests_106 : decode cX12_rests 106 = .ok (.iload_n 3, 1) := by decide +kernel
theorem dX12_rests_107 : decode cX12_rests 107 = .ok (.iconst 1, 1) := by decide +kernel
theorem dX12_rests_108 : decode cX12_rests 108 = .ok (.iload 8, 2) := by decide +kernel
theorem dX12_rests_110 : decode cX12_rests 110 = .ok (.isub, 1) := by decide +kernel
theorem dX12_rests_111 : decode cX12_rests 111 = .ok (.iload 7, 2) := by decide +kernel
theorem dX12_rests_113 : decode cX12_rests 113 = .ok (.invokestatic 462, 3) := by decide +kernel
theorem dX12_rests_116 : decode cX12_rests 116 = .ok (.iload_n 1, 1) := by decide +kernel
theorem dX12_rests_117 : decode cX12_rests 117 = .ok (.iload_n 2, 1) := by decide +kernel
theorem dX12_rests_118 : decode cX12_rests 118 = .ok (.iload_n 3, 1) := by decide +kernel
theorem dX12_rests_119 : decode cX12_rests 119 = .ok (.iload 8, 2) := by decide +kernel
theorem dX12_rests_121 : decode cX12_rests 121 = .ok (.iload 7, 2) := by decide +kernel
theorem dX12_rests_123 : decode cX12_rests 123 = .ok (.invokestatic 462, 3) := by decide +kernel
theorem dX12_rests_126 : decode cX12_rests 126 = .ok (.if_icmp .le 6, 3) := by decide +kernel
theorem dX12_rests_129 : decode cX12_rests 129 = .ok (.goto 16, 3) := by decide +kernel
theorem dX12_rests_132 : decode cX12_rests 132 = .ok (.iload 5, 2) := by decide +kernel
theorem dX12_rests_134 : decode cX12_rests 134 = .ok (.iload 4, 2) := by decide +kernel
theorem dX12_rests_136 : decode cX12_rests 136 = .ok (.if_icmp .ne 6, 3) := by decide +kernel
theorem dX12_rests_139 : decode cX12_rests 139 = .ok (.iload 6, 2) := by decide +kernel
theorem dX12_rests_141 : decode cX12_rests 141 = .ok (.ireturn, 1) := by decide +kernel
theorem dX12_rests_142 : decode cX12_rests 142 = .ok (.iinc 5 1, 3) := by decide +kernel
theorem dX12_rests_145 : decode cX12_rests 145 = .ok (.iinc 6 1, 3) := by decide +kernel
theorem dX12_rests_148 : decode cX12_rests 148 = .ok (.goto (-87), 3) := by decide +kernel
theorem dX12_rests_151 : decode cX12_rests 151 = .ok (.aload_n 0, 1) := by decide +kernel
theorem dX12_rests_152 : decode cX12_rests 152 = .ok (.iload 4, 2) := by decide +kernel
theorem dX12_rests_154 : decode cX12_rests 154 = .ok (.iconst (-1), 1) := by decide +kernel
theorem dX12_rests_155 : decode cX12_rests 155 = .ok (.if_icmp .ne 7, 3) := by decide +kernel
theorem dX12_rests_158 : decode cX12_rests 158 = .ok (.iconst 0, 1) := by decide +kernel
theorem dX12_rests_159 : decode cX12_rests 159 = .ok (.goto 4, 3) := by decide +kernel
theorem dX12_rests_162 : decode cX12_rests 162 = .ok (.iconst 1, 1) := by decide +kernel
theorem dX12_rests_163 : decode cX12_rests 163 = .ok (.putfield 133, 3) := by decide +kernel
theorem dX12_rests_166 : decode cX12_rests 166 = .ok (.iload 4, 2) := by decide +kernel
theorem dX12_rests_168 : decode cX12_rests 168 = .ok (.iconst (-1), 1) := by decide +kernel
theorem dX12_rests_169 : decode cX12_rests 169 = .ok (.if_icmp .ne 8, 3) := by decide +kernel
theorem dX12_rests_172 : decode cX12_rests 172 = .ok (.iload 5, 2) := by decide +kernel
theorem dX12_rests_174 : decode cX12_rests 174 = .ok (.goto 4, 3) := by decide +kernel
theorem dX12_rests_177 : decode cX12_rests 177 = .ok (.iconst 0, 1) := by decide +kernel
theorem dX12_rests_178 : decode cX12_rests 178 = .ok (.ireturn, 1) := by decide +kernel
theorem dX12_draws_0 : decode cX12_draws 0 = .ok (.aload_n 0, 1) := by decide +kernel
theorem dX12_draws_1 : decode cX12_draws 1 = .ok (.aload_n 0, 1) := by decide +kernel
theorem dX12_draws_2 : decode cX12_draws 2 = .ok (.getfield 466, 3) := by decide +kernel
theorem dX12_draws_5 : decode cX12_draws 5 = .ok (.ldc2_w 469, 3) := by decide +kernel
theorem dX12_draws_8 : decode cX12_draws 8 = .ok (.lmul, 1) := by decide +kernel
theorem dX12_draws_9 : decode cX12_draws 9 = .ok (.ldc2_w 471, 3) := by decide +kernel
theorem dX12_draws_12 : decode cX12_draws 12 = .ok (.ladd, 1) := by decide +kernel
theorem dX12_draws_13 : decode cX12_draws 13 = .ok (.ldc2_w 473, 3) := by decide +kernel
theorem dX12_draws_16 : decode cX12_draws 16 = .ok (.lrem, 1) := by decide +kernel
theorem dX12_draws_17 : decode cX12_draws 17 = .ok (.putfield 466, 3) := by decide +kernel
theorem dX12_draws_20 : decode cX12_draws 20 = .ok (.aload_n 0, 1) := by decide +kernel
theorem dX12_draws_21 : decode cX12_draws 21 = .ok (.getfield 466, 3) := by decide +kernel
theorem dX12_draws_24 : decode cX12_draws 24 = .ok (.ldc2_w 475, 3) := by decide +kernel
theorem dX12_draws_27 : decode cX12_draws 27 = .ok (.ldiv, 1) := by decide +kernel
theorem dX12_draws_28 : decode cX12_draws 28 = .ok (.iload_n 1, 1) := by decide +kernel
theorem dX12_draws_29 : decode cX12_draws 29 = .ok (.i2l, 1) := by decide +kernel
theorem dX12_draws_30 : decode cX12_draws 30 = .ok (.lrem, 1) := by decide +kernel
theorem dX12_draws_31 : decode cX12_draws 31 = .ok (.l2i, 1) := by decide +kernel
theorem dX12_draws_32 : decode cX12_draws 32 = .ok (.ireturn, 1) := by decide +kernel
theorem dX12_livesWeek_0 : decode cX12_livesWeek 0 = .ok (.aload_n 0, 1) := by decide +kernel
theorem dX12_livesWeek_1 : decode cX12_livesWeek 1 = .ok (.getfield 13, 3) := by decide +kernel
theorem dX12_livesWeek_4 : decode cX12_livesWeek 4 = .ok (.iconst 0, 1) := by decide +kernel
theorem dX12_livesWeek_5 : decode cX12_livesWeek 5 = .ok (.iaload, 1) := by decide +kernel
theorem dX12_livesWeek_6 : decode cX12_livesWeek 6 = .ok (.ifCond .le 114, 3) := by decide +kernel
theorem dX12_livesWeek_9 : decode cX12_livesWeek 9 = .ok (.aload_n 0, 1) := by decide +kernel
theorem dX12_livesWeek_10 : decode cX12_livesWeek 10 = .ok (.aload_n 0, 1) := by decide +kernel
theorem dX12_livesWeek_11 : decode cX12_livesWeek 11 = .ok (.getfield 13, 3) := by decide +kernel
theorem dX12_livesWeek_14 : decode cX12_livesWeek 14 = .ok (.iconst 0, 1) := by decide +kernel
theorem dX12_livesWeek_15 : decode cX12_livesWeek 15 = .ok (.iaload, 1) := by decide +kernel
theorem dX12_livesWeek_16 : decode cX12_livesWeek 16 = .ok (.invokevirtual 477, 3) := by decide +kernel
theorem dX12_livesWeek_19 : decode cX12_livesWeek 19 = .ok (.istore_n 1, 1) := by decide +kernel
theorem dX12_livesWeek_20 : decode cX12_livesWeek 20 = .ok (.aload_n 0, 1) := by decide +kernel
theorem dX12_livesWeek_21 : decode cX12_livesWeek 21 = .ok (.iconst 5, 1) := by decide +kernel
theorem dX12_livesWeek_22 : decode cX12_livesWeek 22 = .ok (.invokevirtual 477, 3) := by decide +kernel
theorem dX12_livesWeek_25 : decode cX12_livesWeek 25 = .ok (.istore_n 2, 1) := by decide +kernel
theorem dX12_livesWeek_26 : decode cX12_livesWeek 26 = .ok (.iload_n 2, 1) := by decide +kernel
theorem dX12_livesWeek_27 : decode cX12_livesWeek 27 = .ok (.iconst 2, 1) := by decide +kernel
theorem dX12_livesWeek_28 : decode cX12_livesWeek 28 = .ok (.if_icmp .ge 14, 3) := by decide +kernel
theorem dX12_livesWeek_31 : decode cX12_livesWeek 31 = .ok (.aload_n 0, 1) := by decide +kernel
theorem dX12_livesWeek_32 : decode cX12_livesWeek 32 = .ok (.bipush 20, 2) := by decide +kernel
theorem dX12_livesWeek_34 : decode cX12_livesWeek 34 = .ok (.invokevirtual 477, 3) := by decide +kernel
theorem dX12_livesWeek_37 : decode cX12_livesWeek 37 = .ok (.iconst 1, 1) := by decide +kernel
theorem dX12_livesWeek_38 : decode cX12_livesWeek 38 = .ok (.iadd, 1) := by decide +kernel
theorem dX12_livesWeek_39 : decode cX12_livesWeek 39 = .ok (.goto 22, 3) := by decide +kernel
theorem dX12_livesWeek_42 : decode cX12_livesWeek 42 = .ok (.iload_n 2, 1) := by decide +kernel
theorem dX12_livesWeek_43 : decode cX12_livesWeek 43 = .ok (.iconst 2, 1) := by decide +kernel
theorem dX12_livesWeek_44 : decode cX12_livesWeek 44 = .ok (.if_icmp .ne 16, 3) := by decide +kernel
theorem dX12_livesWeek_47 : decode cX12_livesWeek 47 = .ok (.aload_n 0, 1) := by decide +kernel
theorem dX12_livesWeek_48 : decode cX12_livesWeek 48 = .ok (.aload_n 0, 1) := by decide +kernel
theorem dX12_livesWeek_49 : decode cX12_livesWeek 49 = .ok (.getfield 13, 3) := by decide +kernel
theorem dX12_livesWeek_52 : decode cX12_livesWeek 52 = .ok (.iconst 0, 1) := by decide +kernel
theorem dX12_livesWeek_53 : decode cX12_livesWeek 53 = .ok (.iaload, 1) := by decide +kernel
theorem dX12_livesWeek_54 : decode cX12_livesWeek 54 = .ok (.invokevirtual 477, 3) := by decide +kernel
theorem dX12_livesWeek_57 : decode cX12_livesWeek 57 = .ok (.goto 4, 3) := by decide +kernel
theorem dX12_livesWeek_60 : decode cX12_livesWeek 60 = .ok (.iconst 0, 1) := by decide +kernel
theorem dX12_livesWeek_61 : decode cX12_livesWeek 61 = .ok (.istore_n 3, 1) := by decide +kernel
theorem dX12_livesWeek_62 : decode cX12_livesWeek 62 = .ok (.iload_n 2, 1) := by decide +kernel
theorem dX12_livesWeek_63 : decode cX12_livesWeek 63 = .ok (.ifCond .ne 25, 3) := by decide +kernel
theorem dX12_livesWeek_66 : decode cX12_livesWeek 66 = .ok (.aload_n 0, 1) := by decide +kernel
theorem dX12_livesWeek_67 : decode cX12_livesWeek 67 = .ok (.getfield 108, 3) := by decide +kernel
theorem dX12_livesWeek_70 : decode cX12_livesWeek 70 = .ok (.iconst 3, 1) := by decide +kernel
theorem dX12_livesWeek_71 : decode cX12_livesWeek 71 = .ok (.iload_n 1, 1) := by decide +kernel
theorem dX12_livesWeek_72 : decode cX12_livesWeek 72 = .ok (.iadd, 1) := by decide +kernel
theorem dX12_livesWeek_73 : decode cX12_livesWeek 73 = .ok (.iconst 0, 1) := by decide +kernel
theorem dX12_livesWeek_74 : decode cX12_livesWeek 74 = .ok (.aload_n 0, 1) := by decide +kernel
theorem dX12_livesWeek_75 : decode cX12_livesWeek 75 = .ok (.getfield 108, 3) := by decide +kernel
theorem dX12_livesWeek_78 : decode cX12_livesWeek 78 = .ok (.iconst 3, 1) := by decide +kernel
theorem dX12_livesWeek_79 : decode cX12_livesWeek 79 = .ok (.iload_n 1, 1) := by decide +kernel
theorem dX12_livesWeek_80 : decode cX12_livesWeek 80 = .ok (.iadd, 1) := by decide +kernel
theorem dX12_livesWeek_81 : decode cX12_livesWeek 81 = .ok (.iaload, 1) := by decide +kernel
theorem dX12_livesWeek_82 : decode cX12_livesWeek 82 = .ok (.iload_n 3, 1) := by decide +kernel
theorem dX12_livesWeek_83 : decode cX12_livesWeek 83 = .ok (.isub, 1) := by decide +kernel
theorem dX12_livesWeek_84 : decode cX12_livesWeek 84 = .ok (.invokestatic 360, 3) := by decide +kernel
theorem dX12_livesWeek_87 : decode cX12_livesWeek 87 = .ok (.iastore, 1) := by decide +kernel
theorem dX12_livesWeek_88 : decode cX12_livesWeek 88 = .ok (.iload_n 2, 1) := by decide +kernel
theorem dX12_livesWeek_89 : decode cX12_livesWeek 89 = .ok (.iconst 1, 1) := by decide +kernel
theorem dX12_livesWeek_90 : decode cX12_livesWeek 90 = .ok (.if_icmp .ne 10, 3) := by decide +kernel
theorem dX12_livesWeek_93 : decode cX12_livesWeek 93 = .ok (.aload_n 0, 1) := by decide +kernel
theorem dX12_livesWeek_94 : decode cX12_livesWeek 94 = .ok (.iload_n 1, 1) := by decide +kernel
theorem dX12_livesWeek_95 : decode cX12_livesWeek 95 = .ok (.iload_n 3, 1) := by decide +kernel
theorem dX12_livesWeek_96 : decode cX12_livesWeek 96 = .ok (.invokevirtual 377, 3) := by decide +kernel
theorem dX12_livesWeek_99 : decode cX12_livesWeek 99 = .ok (.pop, 1) := by decide +kernel
theorem dX12_livesWeek_100 : decode cX12_livesWeek 100 = .ok (.iload_n 2, 1) := by decide +kernel
theorem dX12_livesWeek_101 : decode cX12_livesWeek 101 = .ok (.iconst 2, 1) := by decide +kernel
theorem dX12_livesWeek_102 : decode cX12_livesWeek 102 = .ok (.if_icmp .ne 18, 3) := by decide +kernel
theorem dX12_livesWeek_105 : decode cX12_livesWeek 105 = .ok (.aload_n 0, 1) := by decide +kernel
theorem dX12_livesWeek_106 : decode cX12_livesWeek 106 = .ok (.iload_n 1, 1) := by decide +kernel
theorem dX12_livesWeek_107 : decode cX12_livesWeek 107 = .ok (.iload_n 3, 1) := by decide +kernel
theorem dX12_livesWeek_108 : decode cX12_livesWeek 108 = .ok (.invokevirtual 408, 3) := by decide +kernel
theorem dX12_livesWeek_111 : decode cX12_livesWeek 111 = .ok (.ifCond .eq 9, 3) := by decide +kernel
theorem dX12_livesWeek_114 : decode cX12_livesWeek 114 = .ok (.aload_n 0, 1) := by decide +kernel
theorem dX12_livesWeek_115 : decode cX12_livesWeek 115 = .ok (.iload_n 1, 1) := by decide +kernel
theorem dX12_livesWeek_116 : decode cX12_livesWeek 116 = .ok (.iload_n 3, 1) := by decide +kernel
theorem dX12_livesWeek_117 : decode cX12_livesWeek 117 = .ok (.invokevirtual 411, 3) := by decide +kernel
theorem dX12_livesWeek_120 : decode cX12_livesWeek 120 = .ok (.aload_n 0, 1) := by decide +kernel
theorem dX12_livesWeek_121 : decode cX12_livesWeek 121 = .ok (.invokevirtual 421, 3) := by decide +kernel
theorem dX12_livesWeek_124 : decode cX12_livesWeek 124 = .ok (.pop, 1) := by decide +kernel
theorem dX12_livesWeek_125 : decode cX12_livesWeek 125 = .ok (.return_, 1) := by decide +kernel
theorem dX12_allDone_0 : decode cX12_allDone 0 = .ok (.iconst 0, 1) := by decide +kernel
theorem dX12_allDone_1 : decode cX12_allDone 1 = .ok (.istore_n 1, 1) := by decide +kernel
theorem dX12_allDone_2 : decode cX12_allDone 2 = .ok (.iconst 0, 1) := by decide +kernel
theorem dX12_allDone_3 : decode cX12_allDone 3 = .ok (.istore_n 2, 1) := by decide +kernel
theorem dX12_allDone_4 : decode cX12_allDone 4 = .ok (.iload_n 2, 1) := by decide +kernel
theorem dX12_allDone_5 : decode cX12_allDone 5 = .ok (.bipush 6, 2) := by decide +kernel
theorem dX12_allDone_7 : decode cX12_allDone 7 = .ok (.if_icmp .ge 20, 3) := by decide +kernel
theorem dX12_allDone_10 : decode cX12_allDone 10 = .ok (.iload_n 1, 1) := by decide +kernel
theorem dX12_allDone_11 : decode cX12_allDone 11 = .ok (.aload_n 0, 1) := by decide +kernel
theorem dX12_allDone_12 : decode cX12_allDone 12 = .ok (.getfield 108, 3) := by decide +kernel
theorem dX12_allDone_15 : decode cX12_allDone 15 = .ok (.iconst 3, 1) := by decide +kernel
theorem dX12_allDone_16 : decode cX12_allDone 16 = .ok (.iload_n 2, 1) := by decide +kernel
theorem dX12_allDone_17 : decode cX12_allDone 17 = .ok (.iadd, 1) := by decide +kernel
theorem dX12_allDone_18 : decode cX12_allDone 18 = .ok (.iaload, 1) := by decide +kernel
theorem dX12_allDone_19 : decode cX12_allDone 19 = .ok (.iadd, 1) := by decide +kernel
theorem dX12_allDone_20 : decode cX12_allDone 20 = .ok (.istore_n 1, 1) := by decide +kernel
theorem dX12_allDone_21 : decode cX12_allDone 21 = .ok (.iinc 2 1, 3) := by decide +kernel
theorem dX12_allDone_24 : decode cX12_allDone 24 = .ok (.goto (-20), 3) := by decide +kernel
theorem dX12_allDone_27 : decode cX12_allDone 27 = .ok (.iload_n 1, 1) := by decide +kernel
theorem dX12_allDone_28 : decode cX12_allDone 28 = .ok (.ireturn, 1) := by decide +kernel
theorem dX12_terms_0 : decode cX12_terms 0 = .ok (.aload_n 0, 1) := by decide +kernel
theorem dX12_terms_1 : decode cX12_terms 1 = .ok (.iconst 0, 1) := by decide +kernel
theorem dX12_terms_2 : decode cX12_terms 2 = .ok (.putfield 133, 3) := by decide +kernel
theorem dX12_terms_5 : decode cX12_terms 5 = .ok (.iload_n 1, 1) := by decide +kernel
theorem dX12_terms_6 : decode cX12_terms 6 = .ok (.iconst 0, 1) := by decide +kernel
theorem dX12_terms_7 : decode cX12_terms 7 = .ok (.sipush 9999, 3) := by decide +kernel
theorem dX12_terms_10 : decode cX12_terms 10 = .ok (.invokestatic 253, 3) := by decide +kernel
theorem dX12_terms_13 : decode cX12_terms 13 = .ok (.ifCond .eq 22, 3) := by decide +kernel
theorem dX12_terms_16 : decode cX12_terms 16 = .ok (.iload_n 2, 1) := by decide +kernel
theorem dX12_terms_17 : decode cX12_terms 17 = .ok (.iconst 1, 1) := by decide +kernel
theorem dX12_terms_18 : decode cX12_terms 18 = .ok (.bipush 99, 2) := by decide +kernel
theorem dX12_terms_20 : decode cX12_terms 20 = .ok (.invokestatic 253, 3) := by decide +kernel
theorem dX12_terms_23 : decode cX12_terms 23 = .ok (.ifCond .eq 12, 3) := by decide +kernel
theorem dX12_terms_26 : decode cX12_terms 26 = .ok (.iload_n 3, 1) := by decide +kernel
theorem dX12_terms_27 : decode cX12_terms 27 = .ok (.iconst 0, 1) := by decide +kernel
theorem dX12_terms_28 : decode cX12_terms 28 = .ok (.iconst 2, 1) := by decide +kernel
theorem dX12_terms_29 : decode cX12_terms 29 = .ok (.invokestatic 253, 3) := by decide +kernel
theorem dX12_terms_32 : decode cX12_terms 32 = .ok (.ifCond .ne 5, 3) := by decide +kernel
theorem dX12_terms_35 : decode cX12_terms 35 = .ok (.iconst (-1), 1) := by decide +kernel
theorem dX12_terms_36 : decode cX12_terms 36 = .ok (.ireturn, 1) := by decide +kernel
theorem dX12_terms_37 : decode cX12_terms 37 = .ok (.aload_n 0, 1) := by decide +kernel
theorem dX12_terms_38 : decode cX12_terms 38 = .ok (.iload_n 1, 1) := by decide +kernel
theorem dX12_terms_39 : decode cX12_terms 39 = .ok (.i2l, 1) := by decide +kernel
theorem dX12_terms_40 : decode cX12_terms 40 = .ok (.putfield 466, 3) := by decide +kernel
theorem dX12_terms_43 : decode cX12_terms 43 = .ok (.aload_n 0, 1) := by decide +kernel
theorem dX12_terms_44 : decode cX12_terms 44 = .ok (.getfield 108, 3) := by decide +kernel
theorem dX12_terms_47 : decode cX12_terms 47 = .ok (.iconst 0, 1) := by decide +kernel
theorem dX12_terms_48 : decode cX12_terms 48 = .ok (.aload_n 0, 1) := by decide +kernel
theorem dX12_terms_49 : decode cX12_terms 49 = .ok (.getfield 111, 3) := by decide +kernel
theorem dX12_terms_52 : decode cX12_terms 52 = .ok (.iconst 0, 1) := by decide +kernel
theorem dX12_terms_53 : decode cX12_terms 53 = .ok (.invokestatic 401, 3) := by decide +kernel
theorem dX12_terms_56 : decode cX12_terms 56 = .ok (.iconst 0, 1) := by decide +kernel
theorem dX12_terms_57 : decode cX12_terms 57 = .ok (.istore 4, 2) := by decide +kernel
theorem dX12_terms_59 : decode cX12_terms 59 = .ok (.iload 4, 2) := by decide +kernel
theorem dX12_terms_61 : decode cX12_terms 61 = .ok (.iload_n 2, 1) := by decide +kernel
theorem dX12_terms_62 : decode cX12_terms 62 = .ok (.if_icmp .ge 13, 3) := by decide +kernel
theorem dX12_terms_65 : decode cX12_terms 65 = .ok (.aload_n 0, 1) := by decide +kernel
theorem dX12_terms_66 : decode cX12_terms 66 = .ok (.invokevirtual 480, 3) := by decide +kernel
theorem dX12_terms_69 : decode cX12_terms 69 = .ok (.iinc 4 1, 3) := by decide +kernel
theorem dX12_terms_72 : decode cX12_terms 72 = .ok (.goto (-13), 3) := by decide +kernel
theorem dX12_terms_75 : decode cX12_terms 75 = .ok (.aload_n 0, 1) := by decide +kernel
theorem dX12_terms_76 : decode cX12_terms 76 = .ok (.getfield 108, 3) := by decide +kernel
theorem dX12_terms_79 : decode cX12_terms 79 = .ok (.iconst 1, 1) := by decide +kernel
theorem dX12_terms_80 : decode cX12_terms 80 = .ok (.iaload, 1) := by decide +kernel
theorem dX12_terms_81 : decode cX12_terms 81 = .ok (.aload_n 0, 1) := by decide +kernel
theorem dX12_terms_82 : decode cX12_terms 82 = .ok (.getfield 111, 3) := by decide +kernel
theorem dX12_terms_85 : decode cX12_terms 85 = .ok (.iconst 1, 1) := by decide +kernel
theorem dX12_terms_86 : decode cX12_terms 86 = .ok (.iaload, 1) := by decide +kernel
theorem dX12_terms_87 : decode cX12_terms 87 = .ok (.isub, 1) := by decide +kernel
theorem dX12_terms_88 : decode cX12_terms 88 = .ok (.istore 4, 2) := by decide +kernel
theorem dX12_terms_90 : decode cX12_terms 90 = .ok (.aload_n 0, 1) := by decide +kernel
theorem dX12_terms_91 : decode cX12_terms 91 = .ok (.getfield 108, 3) := by decide +kernel
theorem dX12_terms_94 : decode cX12_terms 94 = .ok (.iconst 2, 1) := by decide +kernel
theorem dX12_terms_95 : decode cX12_terms 95 = .ok (.iaload, 1) := by decide +kernel
theorem dX12_terms_96 : decode cX12_terms 96 = .ok (.aload_n 0, 1) := by decide +kernel
theorem dX12_terms_97 : decode cX12_terms 97 = .ok (.getfield 111, 3) := by decide +kernel
theorem dX12_terms_100 : decode cX12_terms 100 = .ok (.iconst 2, 1) := by decide +kernel
theorem dX12_terms_101 : decode cX12_terms 101 = .ok (.iaload, 1) := by decide +kernel
theorem dX12_terms_102 : decode cX12_terms 102 = .ok (.isub, 1) := by decide +kernel
theorem dX12_terms_103 : decode cX12_terms 103 = .ok (.istore 5, 2) := by decide +kernel
theorem dX12_terms_105 : decode cX12_terms 105 = .ok (.aload_n 0, 1) := by decide +kernel
theorem dX12_terms_106 : decode cX12_terms 106 = .ok (.invokevirtual 483, 3) := by decide +kernel
theorem dX12_terms_109 : decode cX12_terms 109 = .ok (.istore 6, 2) := by decide +kernel
theorem dX12_terms_111 : decode cX12_terms 111 = .ok (.aload_n 0, 1) := by decide +kernel
theorem dX12_terms_112 : decode cX12_terms 112 = .ok (.getfield 111, 3) := by decide +kernel
theorem dX12_terms_115 : decode cX12_terms 115 = .ok (.iconst 0, 1) := by decide +kernel
theorem dX12_terms_116 : decode cX12_terms 116 = .ok (.aload_n 0, 1) := by decide +kernel
theorem dX12_terms_117 : decode cX12_terms 117 = .ok (.getfield 108, 3) := by decide +kernel
theorem dX12_terms_120 : decode cX12_terms 120 = .ok (.iconst 0, 1) := by decide +kernel
theorem dX12_terms_121 : decode cX12_terms 121 = .ok (.invokestatic 401, 3) := by decide +kernel
theorem dX12_terms_124 : decode cX12_terms 124 = .ok (.iload_n 3, 1) := by decide +kernel
theorem dX12_terms_125 : decode cX12_terms 125 = .ok (.ifCond .ne 8, 3) := by decide +kernel
theorem dX12_terms_128 : decode cX12_terms 128 = .ok (.iload 4, 2) := by decide +kernel
theorem dX12_terms_130 : decode cX12_terms 130 = .ok (.goto 15, 3) := by decide +kernel
theorem dX12_terms_133 : decode cX12_terms 133 = .ok (.iload_n 3, 1) := by decide +kernel
theorem dX12_terms_134 : decode cX12_terms 134 = .ok (.iconst 1, 1) := by decide +kernel
theorem dX12_terms_135 : decode cX12_terms 135 = .ok (.if_icmp .ne 8, 3) := by decide +kernel
theorem dX12_terms_138 : decode cX12_terms 138 = .ok (.iload 5, 2) := by decide +kernel
theorem dX12_terms_140 : decode cX12_terms 140 = .ok (.goto 5, 3) := by decide +kernel
theorem dX12_terms_143 : decode cX12_terms 143 = .ok (.iload 6, 2) := by decide +kernel
theorem dX12_terms_145 : decode cX12_terms 145 = .ok (.ireturn, 1) := by decide +kernel
theorem dX12_mark_0 : decode cX12_mark 0 = .ok (.aload_n 0, 1) := by decide +kernel
theorem dX12_mark_1 : decode cX12_mark 1 = .ok (.iconst 0, 1) := by decide +kernel
theorem dX12_mark_2 : decode cX12_mark 2 = .ok (.putfield 133, 3) := by decide +kernel
theorem dX12_mark_5 : decode cX12_mark 5 = .ok (.iload_n 1, 1) := by decide +kernel
theorem dX12_mark_6 : decode cX12_mark 6 = .ok (.iconst 0, 1) := by decide +kernel
theorem dX12_mark_7 : decode cX12_mark 7 = .ok (.iconst 3, 1) := by decide +kernel
theorem dX12_mark_8 : decode cX12_mark 8 = .ok (.invokestatic 253, 3) := by decide +kernel
theorem dX12_mark_11 : decode cX12_mark 11 = .ok (.ifCond .eq 16, 3) := by decide +kernel
theorem dX12_mark_14 : decode cX12_mark 14 = .ok (.iload_n 2, 1) := by decide +kernel
theorem dX12_mark_15 : decode cX12_mark 15 = .ok (.ifCond .eq 14, 3) := by decide +kernel
theorem dX12_mark_18 : decode cX12_mark 18 = .ok (.aload_n 0, 1) := by decide +kernel
theorem dX12_mark_19 : decode cX12_mark 19 = .ok (.getfield 123, 3) := by decide +kernel
theorem dX12_mark_22 : decode cX12_mark 22 = .ok (.iload_n 1, 1) := by decide +kernel
theorem dX12_mark_23 : decode cX12_mark 23 = .ok (.baload, 1) := by decide +kernel
theorem dX12_mark_24 : decode cX12_mark 24 = .ok (.ifCond .ne 5, 3) := by decide +kernel
theorem dX12_mark_27 : decode cX12_mark 27 = .ok (.iconst 0, 1) := by decide +kernel
theorem dX12_mark_28 : decode cX12_mark 28 = .ok (.ireturn, 1) := by decide +kernel
theorem dX12_mark_29 : decode cX12_mark 29 = .ok (.aload_n 0, 1) := by decide +kernel
theorem dX12_mark_30 : decode cX12_mark 30 = .ok (.getfield 123, 3) := by decide +kernel
theorem dX12_mark_33 : decode cX12_mark 33 = .ok (.iload_n 1, 1) := by decide +kernel
theorem dX12_mark_34 : decode cX12_mark 34 = .ok (.iconst 1, 1) := by decide +kernel
theorem dX12_mark_35 : decode cX12_mark 35 = .ok (.bastore, 1) := by decide +kernel
theorem dX12_mark_36 : decode cX12_mark 36 = .ok (.iload_n 2, 1) := by decide +kernel
theorem dX12_mark_37 : decode cX12_mark 37 = .ok (.ifCond .eq 9, 3) := by decide +kernel
theorem dX12_mark_40 : decode cX12_mark 40 = .ok (.iconst 1, 1) := by decide +kernel
theorem dX12_mark_41 : decode cX12_mark 41 = .ok (.iload_n 1, 1) := by decide +kernel
theorem dX12_mark_42 : decode cX12_mark 42 = .ok (.iadd, 1) := by decide +kernel
theorem dX12_mark_43 : decode cX12_mark 43 = .ok (.goto 4, 3) := by decide +kernel
theorem dX12_mark_46 : decode cX12_mark 46 = .ok (.iconst 0, 1) := by decide +kernel
theorem dX12_mark_47 : decode cX12_mark 47 = .ok (.istore_n 3, 1) := by decide +kernel
theorem dX12_mark_48 : decode cX12_mark 48 = .ok (.iload_n 2, 1) := by decide +kernel
theorem dX12_mark_49 : decode cX12_mark 49 = .ok (.ifCond .eq 7, 3) := by decide +kernel
theorem dX12_mark_52 : decode cX12_mark 52 = .ok (.iconst 0, 1) := by decide +kernel
theorem dX12_mark_53 : decode cX12_mark 53 = .ok (.goto 6, 3) := by decide +kernel
theorem dX12_mark_56 : decode cX12_mark 56 = .ok (.iconst 1, 1) := by decide +kernel
theorem dX12_mark_57 : decode cX12_mark 57 = .ok (.iload_n 1, 1) := by decide +kernel
theorem dX12_mark_58 : decode cX12_mark 58 = .ok (.iadd, 1) := by decide +kernel
theorem dX12_mark_59 : decode cX12_mark 59 = .ok (.istore 4, 2) := by decide +kernel
theorem dX12_mark_61 : decode cX12_mark 61 = .ok (.aload_n 0, 1) := by decide +kernel
theorem dX12_mark_62 : decode cX12_mark 62 = .ok (.iload_n 3, 1) := by decide +kernel
theorem dX12_mark_63 : decode cX12_mark 63 = .ok (.iload 4, 2) := by decide +kernel
theorem dX12_mark_65 : decode cX12_mark 65 = .ok (.invokevirtual 347, 3) := by decide +kernel
theorem dX12_mark_68 : decode cX12_mark 68 = .ok (.aload_n 0, 1) := by decide +kernel
theorem dX12_mark_69 : decode cX12_mark 69 = .ok (.iload_n 3, 1) := by decide +kernel
theorem dX12_mark_70 : decode cX12_mark 70 = .ok (.iload 4, 2) := by decide +kernel
theorem dX12_mark_72 : decode cX12_mark 72 = .ok (.invokevirtual 486, 3) := by decide +kernel
theorem dX12_mark_75 : decode cX12_mark 75 = .ok (.iload_n 2, 1) := by decide +kernel
theorem dX12_mark_76 : decode cX12_mark 76 = .ok (.ifCond .eq 27, 3) := by decide +kernel
theorem dX12_mark_79 : decode cX12_mark 79 = .ok (.aload_n 0, 1) := by decide +kernel
theorem dX12_mark_80 : decode cX12_mark 80 = .ok (.getfield 117, 3) := by decide +kernel
theorem dX12_mark_83 : decode cX12_mark 83 = .ok (.bipush 14, 2) := by decide +kernel
theorem dX12_mark_85 : decode cX12_mark 85 = .ok (.iload_n 1, 1) := by decide +kernel
theorem dX12_mark_86 : decode cX12_mark 86 = .ok (.imul, 1) := by decide +kernel
theorem dX12_mark_87 : decode cX12_mark 87 = .ok (.aload_n 0, 1) := by decide +kernel
theorem dX12_mark_88 : decode cX12_mark 88 = .ok (.getfield 108, 3) := by decide +kernel
theorem dX12_mark_91 : decode cX12_mark 91 = .ok (.iconst 0, 1) := by decide +kernel
theorem dX12_mark_92 : decode cX12_mark 92 = .ok (.invokestatic 401, 3) := by decide +kernel
theorem dX12_mark_95 : decode cX12_mark 95 = .ok (.aload_n 0, 1) := by decide +kernel
theorem dX12_mark_96 : decode cX12_mark 96 = .ok (.iconst 0, 1) := by decide +kernel
theorem dX12_mark_97 : decode cX12_mark 97 = .ok (.putfield 341, 3) := by decide +kernel
theorem dX12_mark_100 : decode cX12_mark 100 = .ok (.goto 19, 3) := by decide +kernel
theorem dX12_mark_103 : decode cX12_mark 103 = .ok (.aload_n 0, 1) := by decide +kernel
theorem dX12_mark_104 : decode cX12_mark 104 = .ok (.getfield 108, 3) := by decide +kernel
theorem dX12_mark_107 : decode cX12_mark 107 = .ok (.iconst 0, 1) := by decide +kernel
theorem dX12_mark_108 : decode cX12_mark 108 = .ok (.aload_n 0, 1) := by decide +kernel
theorem dX12_mark_109 : decode cX12_mark 109 = .ok (.getfield 117, 3) := by decide +kernel
theorem dX12_mark_112 : decode cX12_mark 112 = .ok (.bipush 14, 2) := by decide +kernel
theorem dX12_mark_114 : decode cX12_mark 114 = .ok (.iload_n 1, 1) := by decide +kernel
theorem dX12_mark_115 : decode cX12_mark 115 = .ok (.imul, 1) := by decide +kernel
theorem dX12_mark_116 : decode cX12_mark 116 = .ok (.invokestatic 401, 3) := by decide +kernel
theorem dX12_mark_119 : decode cX12_mark 119 = .ok (.iconst 1, 1) := by decide +kernel
theorem dX12_mark_120 : decode cX12_mark 120 = .ok (.ireturn, 1) := by decide +kernel
theorem dX12_count_0 : decode cX12_count 0 = .ok (.aload_n 0, 1) := by decide +kernel
theorem dX12_count_1 : decode cX12_count 1 = .ok (.iconst 0, 1) := by decide +kernel
theorem dX12_count_2 : decode cX12_count 2 = .ok (.putfield 133, 3) := by decide +kernel
theorem dX12_count_5 : decode cX12_count 5 = .ok (.iload_n 1, 1) := by decide +kernel
theorem dX12_count_6 : decode cX12_count 6 = .ok (.iconst 0, 1) := by decide +kernel
theorem dX12_count_7 : decode cX12_count 7 = .ok (.bipush 12, 2) := by decide +kernel
theorem dX12_count_9 : decode cX12_count 9 = .ok (.invokestatic 253, 3) := by decide +kernel
theorem dX12_count_12 : decode cX12_count 12 = .ok (.ifCond .ne 5, 3) := by decide +kernel
theorem dX12_count_15 : decode cX12_count 15 = .ok (.iconst (-1), 1) := by decide +kernel
theorem dX12_count_16 : decode cX12_count 16 = .ok (.ireturn, 1) := by decide +kernel
theorem dX12_count_17 : decode cX12_count 17 = .ok (.iload_n 1, 1) := by decide +kernel
theorem dX12_count_18 : decode cX12_count 18 = .ok (.iconst 3, 1) := by decide +kernel
theorem dX12_count_19 : decode cX12_count 19 = .ok (.if_icmp .ge 10, 3) := by decide +kernel
theorem dX12_count_22 : decode cX12_count 22 = .ok (.aload_n 0, 1) := by decide +kernel
theorem dX12_count_23 : decode cX12_count 23 = .ok (.getfield 13, 3) := by decide +kernel
theorem dX12_count_26 : decode cX12_count 26 = .ok (.iload_n 1, 1) := by decide +kernel
theorem dX12_count_27 : decode cX12_count 27 = .ok (.iaload, 1) := by decide +kernel
theorem dX12_count_28 : decode cX12_count 28 = .ok (.ireturn, 1) := by decide +kernel
theorem dX12_count_29 : decode cX12_count 29 = .ok (.iload_n 1, 1) := by decide +kernel
theorem dX12_count_30 : decode cX12_count 30 = .ok (.bipush 6, 2) := by decide +kernel
theorem dX12_count_32 : decode cX12_count 32 = .ok (.if_icmp .ge 36, 3) := by decide +kernel
theorem dX12_count_35 : decode cX12_count 35 = .ok (.iload_n 1, 1) := by decide +kernel
theorem dX12_count_36 : decode cX12_count 36 = .ok (.iconst 3, 1) := by decide +kernel
theorem dX12_count_37 : decode cX12_count 37 = .ok (.if_icmp .ne 12, 3) := by decide +kernel
theorem dX12_count_40 : decode cX12_count 40 = .ok (.aload_n 0, 1) := by decide +kernel
theorem dX12_count_41 : decode cX12_count 41 = .ok (.getfield 108, 3) := by decide +kernel
theorem dX12_count_44 : decode cX12_count 44 = .ok (.iconst 0, 1) := by decide +kernel
theorem dX12_count_45 : decode cX12_count 45 = .ok (.iaload, 1) := by decide +kernel
theorem dX12_count_46 : decode cX12_count 46 = .ok (.goto 21, 3) := by decide +kernel
theorem dX12_count_49 : decode cX12_count 49 = .ok (.iload_n 1, 1) := by decide +kernel
theorem dX12_count_50 : decode cX12_count 50 = .ok (.iconst 4, 1) := by decide +kernel
theorem dX12_count_51 : decode cX12_count 51 = .ok (.if_icmp .ne 12, 3) := by decide +kernel
theorem dX12_count_54 : decode cX12_count 54 = .ok (.aload_n 0, 1) := by decide +kernel
theorem dX12_count_55 : decode cX12_count 55 = .ok (.getfield 108, 3) := by decide +kernel
theorem dX12_count_58 : decode cX12_count 58 = .ok (.iconst 1, 1) := by decide +kernel
theorem dX12_count_59 : decode cX12_count 59 = .ok (.iaload, 1) := by decide +kernel
theorem dX12_count_60 : decode cX12_count 60 = .ok (.goto 7, 3) := by decide +kernel
theorem dX12_count_63 : decode cX12_count 63 = .ok (.aload_n 0, 1) := by decide +kernel
theorem dX12_count_64 : decode cX12_count 64 = .ok (.invokevirtual 483, 3) := by decide +kernel
theorem dX12_count_67 : decode cX12_count 67 = .ok (.ireturn, 1) := by decide +kernel
theorem dX12_count_68 : decode cX12_count 68 = .ok (.iload_n 1, 1) := by decide +kernel
theorem dX12_count_69 : decode cX12_count 69 = .ok (.bipush 9, 2) := by decide +kernel
theorem dX12_count_71 : decode cX12_count 71 = .ok (.if_icmp .ge 36, 3) := by decide +kernel
theorem dX12_count_74 : decode cX12_count 74 = .ok (.iload_n 1, 1) := by decide +kernel
theorem dX12_count_75 : decode cX12_count 75 = .ok (.bipush 6, 2) := by decide +kernel
theorem dX12_count_77 : decode cX12_count 77 = .ok (.if_icmp .ne 10, 3) := by decide +kernel
theorem dX12_count_80 : decode cX12_count 80 = .ok (.aload_n 0, 1) := by decide +kernel
theorem dX12_count_81 : decode cX12_count 81 = .ok (.invokevirtual 427, 3) := by decide +kernel
theorem dX12_count_84 : decode cX12_count 84 = .ok (.goto 22, 3) := by decide +kernel
theorem dX12_count_87 : decode cX12_count 87 = .ok (.iload_n 1, 1) := by decide +kernel
theorem dX12_count_88 : decode cX12_count 88 = .ok (.bipush 7, 2) := by decide +kernel
theorem dX12_count_90 : decode cX12_count 90 = .ok (.if_icmp .ne 10, 3) := by decide +kernel
theorem dX12_count_93 : decode cX12_count 93 = .ok (.aload_n 0, 1) := by decide +kernel
theorem dX12_count_94 : decode cX12_count 94 = .ok (.invokevirtual 389, 3) := by decide +kernel
theorem dX12_count_97 : decode cX12_count 97 = .ok (.goto 9, 3) := by decide +kernel
theorem dX12_count_100 : decode cX12_count 100 = .ok (.aload_n 0, 1) := by decide +kernel
theorem dX12_count_101 : decode cX12_count 101 = .ok (.getfield 108, 3) := by decide +kernel
theorem dX12_count_104 : decode cX12_count 104 = .ok (.iconst 2, 1) := by decide +kernel
theorem dX12_count_105 : decode cX12_count 105 = .ok (.iaload, 1) := by decide +kernel
theorem dX12_count_106 : decode cX12_count 106 = .ok (.ireturn, 1) := by decide +kernel
theorem dX12_count_107 : decode cX12_count 107 = .ok (.iload_n 1, 1) := by decide +kernel
theorem dX12_count_108 : decode cX12_count 108 = .ok (.bipush 11, 2) := by decide +kernel
theorem dX12_count_110 : decode cX12_count 110 = .ok (.if_icmp .ge 25, 3) := by decide +kernel
theorem dX12_count_113 : decode cX12_count 113 = .ok (.iload_n 1, 1) := by decide +kernel
theorem dX12_count_114 : decode cX12_count 114 = .ok (.bipush 9, 2) := by decide +kernel
theorem dX12_count_116 : decode cX12_count 116 = .ok (.if_icmp .ne 12, 3) := by decide +kernel
theorem dX12_count_119 : decode cX12_count 119 = .ok (.aload_n 0, 1) := by decide +kernel
theorem dX12_count_120 : decode cX12_count 120 = .ok (.getfield 84, 3) := by decide +kernel
theorem dX12_count_123 : decode cX12_count 123 = .ok (.iconst 0, 1) := by decide +kernel
theorem dX12_count_124 : decode cX12_count 124 = .ok (.iaload, 1) := by decide +kernel
theorem dX12_count_125 : decode cX12_count 125 = .ok (.goto 9, 3) := by decide +kernel
theorem dX12_count_128 : decode cX12_count 128 = .ok (.aload_n 0, 1) := by decide +kernel
theorem dX12_count_129 : decode cX12_count 129 = .ok (.getfield 99, 3) := by decide +kernel
theorem dX12_count_132 : decode cX12_count 132 = .ok (.iconst 0, 1) := by decide +kernel
theorem dX12_count_133 : decode cX12_count 133 = .ok (.iaload, 1) := by decide +kernel
theorem dX12_count_134 : decode cX12_count 134 = .ok (.ireturn, 1) := by decide +kernel
theorem dX12_count_135 : decode cX12_count 135 = .ok (.iload_n 1, 1) := by decide +kernel
theorem dX12_count_136 : decode cX12_count 136 = .ok (.bipush 11, 2) := by decide +kernel
theorem dX12_count_138 : decode cX12_count 138 = .ok (.if_icmp .ne 10, 3) := by decide +kernel
theorem dX12_count_141 : decode cX12_count 141 = .ok (.aload_n 0, 1) := by decide +kernel
theorem dX12_count_142 : decode cX12_count 142 = .ok (.getfield 341, 3) := by decide +kernel
theorem dX12_count_145 : decode cX12_count 145 = .ok (.goto 7, 3) := by decide +kernel
theorem dX12_count_148 : decode cX12_count 148 = .ok (.aload_n 0, 1) := by decide +kernel
theorem dX12_count_149 : decode cX12_count 149 = .ok (.getfield 139, 3) := by decide +kernel
theorem dX12_count_152 : decode cX12_count 152 = .ok (.ireturn, 1) := by decide +kernel
