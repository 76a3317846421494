theorem dX5_begin_0 : decode cX5_begin 0 = .ok (.aload_n 0, 1) := by decide +kernel
theorem dX5_begin_1 : decode cX5_begin 1 = .ok (.aload_n 2, 1) := by decide +kernel
theorem dX5_begin_2 : decode cX5_begin 2 = .ok (.putfield 9, 3) := by decide +kernel
theorem dX5_begin_5 : decode cX5_begin 5 = .ok (.aload_n 0, 1) := by decide +kernel
theorem dX5_begin_6 : decode cX5_begin 6 = .ok (.iload_n 3, 1) := by decide +kernel
theorem dX5_begin_7 : decode cX5_begin 7 = .ok (.aload_n 2, 1) := by decide +kernel
theorem dX5_begin_8 : decode cX5_begin 8 = .ok (.arraylength, 1) := by decide +kernel
theorem dX5_begin_9 : decode cX5_begin 9 = .ok (.invokestatic 29, 3) := by decide +kernel
theorem dX5_begin_12 : decode cX5_begin 12 = .ok (.putfield 35, 3) := by decide +kernel
theorem dX5_begin_15 : decode cX5_begin 15 = .ok (.aload_n 0, 1) := by decide +kernel
theorem dX5_begin_16 : decode cX5_begin 16 = .ok (.iconst 0, 1) := by decide +kernel
theorem dX5_begin_17 : decode cX5_begin 17 = .ok (.putfield 38, 3) := by decide +kernel
theorem dX5_begin_20 : decode cX5_begin 20 = .ok (.aload_n 0, 1) := by decide +kernel
theorem dX5_begin_21 : decode cX5_begin 21 = .ok (.sipush 260, 3) := by decide +kernel
theorem dX5_begin_24 : decode cX5_begin 24 = .ok (.putfield 41, 3) := by decide +kernel
theorem dX5_begin_27 : decode cX5_begin 27 = .ok (.aload_n 0, 1) := by decide +kernel
theorem dX5_begin_28 : decode cX5_begin 28 = .ok (.iconst 0, 1) := by decide +kernel
theorem dX5_begin_29 : decode cX5_begin 29 = .ok (.putfield 44, 3) := by decide +kernel
theorem dX5_begin_32 : decode cX5_begin 32 = .ok (.aload_n 0, 1) := by decide +kernel
theorem dX5_begin_33 : decode cX5_begin 33 = .ok (.iconst (-1), 1) := by decide +kernel
theorem dX5_begin_34 : decode cX5_begin 34 = .ok (.putfield 15, 3) := by decide +kernel
theorem dX5_begin_37 : decode cX5_begin 37 = .ok (.aload_n 0, 1) := by decide +kernel
theorem dX5_begin_38 : decode cX5_begin 38 = .ok (.aload_n 1, 1) := by decide +kernel
theorem dX5_begin_39 : decode cX5_begin 39 = .ok (.aload_n 0, 1) := by decide +kernel
theorem dX5_begin_40 : decode cX5_begin 40 = .ok (.getfield 22, 3) := by decide +kernel
theorem dX5_begin_43 : decode cX5_begin 43 = .ok (.if_acmp .ne 7, 3) := by decide +kernel
theorem dX5_begin_46 : decode cX5_begin 46 = .ok (.iconst 1, 1) := by decide +kernel
theorem dX5_begin_47 : decode cX5_begin 47 = .ok (.goto 4, 3) := by decide +kernel
theorem dX5_begin_50 : decode cX5_begin 50 = .ok (.iconst 0, 1) := by decide +kernel
theorem dX5_begin_51 : decode cX5_begin 51 = .ok (.putfield 47, 3) := by decide +kernel
theorem dX5_begin_54 : decode cX5_begin 54 = .ok (.aload_n 0, 1) := by decide +kernel
theorem dX5_begin_55 : decode cX5_begin 55 = .ok (.aload_n 1, 1) := by decide +kernel
theorem dX5_begin_56 : decode cX5_begin 56 = .ok (.putfield 26, 3) := by decide +kernel
theorem dX5_begin_59 : decode cX5_begin 59 = .ok (.aload_n 1, 1) := by decide +kernel
theorem dX5_begin_60 : decode cX5_begin 60 = .ok (.iconst 0, 1) := by decide +kernel
theorem dX5_begin_61 : decode cX5_begin 61 = .ok (.putfield 51, 3) := by decide +kernel
theorem dX5_begin_64 : decode cX5_begin 64 = .ok (.aload_n 0, 1) := by decide +kernel
theorem dX5_begin_65 : decode cX5_begin 65 = .ok (.invokevirtual 54, 3) := by decide +kernel
theorem dX5_begin_68 : decode cX5_begin 68 = .ok (.return_, 1) := by decide +kernel
theorem dX5_fail_0 : decode cX5_fail 0 = .ok (.aload_n 0, 1) := by decide +kernel
theorem dX5_fail_1 : decode cX5_fail 1 = .ok (.getfield 44, 3) := by decide +kernel
theorem dX5_fail_4 : decode cX5_fail 4 = .ok (.ifCond .ne 13, 3) := by decide +kernel
theorem dX5_fail_7 : decode cX5_fail 7 = .ok (.aload_n 0, 1) := by decide +kernel
theorem dX5_fail_8 : decode cX5_fail 8 = .ok (.iload_n 1, 1) := by decide +kernel
theorem dX5_fail_9 : decode cX5_fail 9 = .ok (.putfield 44, 3) := by decide +kernel
theorem dX5_fail_12 : decode cX5_fail 12 = .ok (.aload_n 0, 1) := by decide +kernel
theorem dX5_fail_13 : decode cX5_fail 13 = .ok (.iload_n 2, 1) := by decide +kernel
theorem dX5_fail_14 : decode cX5_fail 14 = .ok (.putfield 15, 3) := by decide +kernel
theorem dX5_fail_17 : decode cX5_fail 17 = .ok (.aload_n 0, 1) := by decide +kernel
theorem dX5_fail_18 : decode cX5_fail 18 = .ok (.sipush 260, 3) := by decide +kernel
theorem dX5_fail_21 : decode cX5_fail 21 = .ok (.putfield 41, 3) := by decide +kernel
theorem dX5_fail_24 : decode cX5_fail 24 = .ok (.return_, 1) := by decide +kernel
theorem dX5_advance_0 : decode cX5_advance 0 = .ok (.aload_n 0, 1) := by decide +kernel
theorem dX5_advance_1 : decode cX5_advance 1 = .ok (.getfield 44, 3) := by decide +kernel
theorem dX5_advance_4 : decode cX5_advance 4 = .ok (.ifCond .eq 4, 3) := by decide +kernel
theorem dX5_advance_7 : decode cX5_advance 7 = .ok (.return_, 1) := by decide +kernel
theorem dX5_advance_8 : decode cX5_advance 8 = .ok (.aload_n 0, 1) := by decide +kernel
theorem dX5_advance_9 : decode cX5_advance 9 = .ok (.getfield 41, 3) := by decide +kernel
theorem dX5_advance_12 : decode cX5_advance 12 = .ok (.sipush 256, 3) := by decide +kernel
theorem dX5_advance_15 : decode cX5_advance 15 = .ok (.if_icmp .eq 17, 3) := by decide +kernel
theorem dX5_advance_18 : decode cX5_advance 18 = .ok (.aload_n 0, 1) := by decide +kernel
theorem dX5_advance_19 : decode cX5_advance 19 = .ok (.getfield 41, 3) := by decide +kernel
theorem dX5_advance_22 : decode cX5_advance 22 = .ok (.sipush 257, 3) := by decide +kernel
theorem dX5_advance_25 : decode cX5_advance 25 = .ok (.if_icmp .eq 7, 3) := by decide +kernel
theorem dX5_advance_28 : decode cX5_advance 28 = .ok (.iconst 1, 1) := by decide +kernel
theorem dX5_advance_29 : decode cX5_advance 29 = .ok (.goto 4, 3) := by decide +kernel
theorem dX5_advance_32 : decode cX5_advance 32 = .ok (.iconst 0, 1) := by decide +kernel
theorem dX5_advance_33 : decode cX5_advance 33 = .ok (.istore_n 1, 1) := by decide +kernel
theorem dX5_advance_34 : decode cX5_advance 34 = .ok (.aload_n 0, 1) := by decide +kernel
theorem dX5_advance_35 : decode cX5_advance 35 = .ok (.getfield 38, 3) := by decide +kernel
theorem dX5_advance_38 : decode cX5_advance 38 = .ok (.aload_n 0, 1) := by decide +kernel
theorem dX5_advance_39 : decode cX5_advance 39 = .ok (.getfield 35, 3) := by decide +kernel
theorem dX5_advance_42 : decode cX5_advance 42 = .ok (.if_icmp .ge 46, 3) := by decide +kernel
theorem dX5_advance_45 : decode cX5_advance 45 = .ok (.aload_n 0, 1) := by decide +kernel
theorem dX5_advance_46 : decode cX5_advance 46 = .ok (.getfield 9, 3) := by decide +kernel
theorem dX5_advance_49 : decode cX5_advance 49 = .ok (.aload_n 0, 1) := by decide +kernel
theorem dX5_advance_50 : decode cX5_advance 50 = .ok (.getfield 38, 3) := by decide +kernel
theorem dX5_advance_53 : decode cX5_advance 53 = .ok (.iaload, 1) := by decide +kernel
theorem dX5_advance_54 : decode cX5_advance 54 = .ok (.bipush 10, 2) := by decide +kernel
theorem dX5_advance_56 : decode cX5_advance 56 = .ok (.if_icmp .eq 17, 3) := by decide +kernel
theorem dX5_advance_59 : decode cX5_advance 59 = .ok (.aload_n 0, 1) := by decide +kernel
theorem dX5_advance_60 : decode cX5_advance 60 = .ok (.getfield 9, 3) := by decide +kernel
theorem dX5_advance_63 : decode cX5_advance 63 = .ok (.aload_n 0, 1) := by decide +kernel
theorem dX5_advance_64 : decode cX5_advance 64 = .ok (.getfield 38, 3) := by decide +kernel
theorem dX5_advance_67 : decode cX5_advance 67 = .ok (.iaload, 1) := by decide +kernel
theorem dX5_advance_68 : decode cX5_advance 68 = .ok (.bipush 32, 2) := by decide +kernel
theorem dX5_advance_70 : decode cX5_advance 70 = .ok (.if_icmp .ne 18, 3) := by decide +kernel
theorem dX5_advance_73 : decode cX5_advance 73 = .ok (.aload_n 0, 1) := by decide +kernel
theorem dX5_advance_74 : decode cX5_advance 74 = .ok (.dup, 1) := by decide +kernel
theorem dX5_advance_75 : decode cX5_advance 75 = .ok (.getfield 38, 3) := by decide +kernel
theorem dX5_advance_78 : decode cX5_advance 78 = .ok (.iconst 1, 1) := by decide +kernel
theorem dX5_advance_79 : decode cX5_advance 79 = .ok (.iadd, 1) := by decide +kernel
theorem dX5_advance_80 : decode cX5_advance 80 = .ok (.putfield 38, 3) := by decide +kernel
theorem dX5_advance_83 : decode cX5_advance 83 = .ok (.iconst 1, 1) := by decide +kernel
theorem dX5_advance_84 : decode cX5_advance 84 = .ok (.istore_n 1, 1) := by decide +kernel
theorem dX5_advance_85 : decode cX5_advance 85 = .ok (.goto (-51), 3) := by decide +kernel
theorem dX5_advance_88 : decode cX5_advance 88 = .ok (.aload_n 0, 1) := by decide +kernel
theorem dX5_advance_89 : decode cX5_advance 89 = .ok (.aload_n 0, 1) := by decide +kernel
theorem dX5_advance_90 : decode cX5_advance 90 = .ok (.getfield 38, 3) := by decide +kernel
theorem dX5_advance_93 : decode cX5_advance 93 = .ok (.putfield 57, 3) := by decide +kernel
theorem dX5_advance_96 : decode cX5_advance 96 = .ok (.aload_n 0, 1) := by decide +kernel
theorem dX5_advance_97 : decode cX5_advance 97 = .ok (.iconst (-1), 1) := by decide +kernel
theorem dX5_advance_98 : decode cX5_advance 98 = .ok (.putfield 60, 3) := by decide +kernel
theorem dX5_advance_101 : decode cX5_advance 101 = .ok (.aload_n 0, 1) := by decide +kernel
theorem dX5_advance_102 : decode cX5_advance 102 = .ok (.getfield 38, 3) := by decide +kernel
theorem dX5_advance_105 : decode cX5_advance 105 = .ok (.aload_n 0, 1) := by decide +kernel
theorem dX5_advance_106 : decode cX5_advance 106 = .ok (.getfield 35, 3) := by decide +kernel
theorem dX5_advance_109 : decode cX5_advance 109 = .ok (.if_icmp .lt 11, 3) := by decide +kernel
theorem dX5_advance_112 : decode cX5_advance 112 = .ok (.aload_n 0, 1) := by decide +kernel
theorem dX5_advance_113 : decode cX5_advance 113 = .ok (.sipush 258, 3) := by decide +kernel
theorem dX5_advance_116 : decode cX5_advance 116 = .ok (.putfield 41, 3) := by decide +kernel
theorem dX5_advance_119 : decode cX5_advance 119 = .ok (.return_, 1) := by decide +kernel
theorem dX5_advance_120 : decode cX5_advance 120 = .ok (.aload_n 0, 1) := by decide +kernel
theorem dX5_advance_121 : decode cX5_advance 121 = .ok (.getfield 9, 3) := by decide +kernel
theorem dX5_advance_124 : decode cX5_advance 124 = .ok (.aload_n 0, 1) := by decide +kernel
theorem dX5_advance_125 : decode cX5_advance 125 = .ok (.getfield 38, 3) := by decide +kernel
theorem dX5_advance_128 : decode cX5_advance 128 = .ok (.iaload, 1) := by decide +kernel
theorem dX5_advance_129 : decode cX5_advance 129 = .ok (.istore_n 2, 1) := by decide +kernel
theorem dX5_advance_130 : decode cX5_advance 130 = .ok (.aload_n 0, 1) := by decide +kernel
theorem dX5_advance_131 : decode cX5_advance 131 = .ok (.dup, 1) := by decide +kernel
theorem dX5_advance_132 : decode cX5_advance 132 = .ok (.getfield 38, 3) := by decide +kernel
theorem dX5_advance_135 : decode cX5_advance 135 = .ok (.iconst 1, 1) := by decide +kernel
theorem dX5_advance_136 : decode cX5_advance 136 = .ok (.iadd, 1) := by decide +kernel
theorem dX5_advance_137 : decode cX5_advance 137 = .ok (.putfield 38, 3) := by decide +kernel
theorem dX5_advance_140 : decode cX5_advance 140 = .ok (.iload_n 2, 1) := by decide +kernel
theorem dX5_advance_141 : decode cX5_advance 141 = .ok (.bipush 97, 2) := by decide +kernel
theorem dX5_advance_143 : decode cX5_advance 143 = .ok (.if_icmp .lt 97, 3) := by decide +kernel
theorem dX5_advance_146 : decode cX5_advance 146 = .ok (.iload_n 2, 1) := by decide +kernel
theorem dX5_advance_147 : decode cX5_advance 147 = .ok (.bipush 122, 2) := by decide +kernel
theorem dX5_advance_149 : decode cX5_advance 149 = .ok (.if_icmp .gt 91, 3) := by decide +kernel
theorem dX5_advance_152 : decode cX5_advance 152 = .ok (.aload_n 0, 1) := by decide +kernel
theorem dX5_advance_153 : decode cX5_advance 153 = .ok (.getfield 38, 3) := by decide +kernel
theorem dX5_advance_156 : decode cX5_advance 156 = .ok (.aload_n 0, 1) := by decide +kernel
theorem dX5_advance_157 : decode cX5_advance 157 = .ok (.getfield 35, 3) := by decide +kernel
theorem dX5_advance_160 : decode cX5_advance 160 = .ok (.if_icmp .ge 44, 3) := by decide +kernel
theorem dX5_advance_163 : decode cX5_advance 163 = .ok (.aload_n 0, 1) := by decide +kernel
theorem dX5_advance_164 : decode cX5_advance 164 = .ok (.getfield 9, 3) := by decide +kernel
theorem dX5_advance_167 : decode cX5_advance 167 = .ok (.aload_n 0, 1) := by decide +kernel
theorem dX5_advance_168 : decode cX5_advance 168 = .ok (.getfield 38, 3) := by decide +kernel
theorem dX5_advance_171 : decode cX5_advance 171 = .ok (.iaload, 1) := by decide +kernel
theorem dX5_advance_172 : decode cX5_advance 172 = .ok (.bipush 97, 2) := by decide +kernel
theorem dX5_advance_174 : decode cX5_advance 174 = .ok (.if_icmp .lt 30, 3) := by decide +kernel
theorem dX5_advance_177 : decode cX5_advance 177 = .ok (.aload_n 0, 1) := by decide +kernel
theorem dX5_advance_178 : decode cX5_advance 178 = .ok (.getfield 9, 3) := by decide +kernel
theorem dX5_advance_181 : decode cX5_advance 181 = .ok (.aload_n 0, 1) := by decide +kernel
theorem dX5_advance_182 : decode cX5_advance 182 = .ok (.getfield 38, 3) := by decide +kernel
theorem dX5_advance_185 : decode cX5_advance 185 = .ok (.iaload, 1) := by decide +kernel
theorem dX5_advance_186 : decode cX5_advance 186 = .ok (.bipush 122, 2) := by decide +kernel
theorem dX5_advance_188 : decode cX5_advance 188 = .ok (.if_icmp .gt 16, 3) := by decide +kernel
theorem dX5_advance_191 : decode cX5_advance 191 = .ok (.aload_n 0, 1) := by decide +kernel
theorem dX5_advance_192 : decode cX5_advance 192 = .ok (.dup, 1) := by decide +kernel
theorem dX5_advance_193 : decode cX5_advance 193 = .ok (.getfield 38, 3) := by decide +kernel
theorem dX5_advance_196 : decode cX5_advance 196 = .ok (.iconst 1, 1) := by decide +kernel
theorem dX5_advance_197 : decode cX5_advance 197 = .ok (.iadd, 1) := by decide +kernel
theorem dX5_advance_198 : decode cX5_advance 198 = .ok (.putfield 38, 3) := by decide +kernel
theorem dX5_advance_201 : decode cX5_advance 201 = .ok (.goto (-49), 3) := by decide +kernel
theorem dX5_advance_204 : decode cX5_advance 204 = .ok (.aload_n 0, 1) := by decide +kernel
theorem dX5_advance_205 : decode cX5_advance 205 = .ok (.iload_n 1, 1) := by decide +kernel
theorem dX5_advance_206 : decode cX5_advance 206 = .ok (.ifCond .eq 9, 3) := by decide +kernel
theorem dX5_advance_209 : decode cX5_advance 209 = .ok (.sipush 256, 3) := by decide +kernel
theorem dX5_advance_212 : decode cX5_advance 212 = .ok (.goto 6, 3) := by decide +kernel
theorem dX5_advance_215 : decode cX5_advance 215 = .ok (.sipush 259, 3) := by decide +kernel
theorem dX5_advance_218 : decode cX5_advance 218 = .ok (.putfield 41, 3) := by decide +kernel
theorem dX5_advance_221 : decode cX5_advance 221 = .ok (.aload_n 0, 1) := by decide +kernel
theorem dX5_advance_222 : decode cX5_advance 222 = .ok (.aload_n 0, 1) := by decide +kernel
theorem dX5_advance_223 : decode cX5_advance 223 = .ok (.aload_n 0, 1) := by decide +kernel
theorem dX5_advance_224 : decode cX5_advance 224 = .ok (.getfield 57, 3) := by decide +kernel
theorem dX5_advance_227 : decode cX5_advance 227 = .ok (.aload_n 0, 1) := by decide +kernel
theorem dX5_advance_228 : decode cX5_advance 228 = .ok (.getfield 38, 3) := by decide +kernel
theorem dX5_advance_231 : decode cX5_advance 231 = .ok (.invokevirtual 63, 3) := by decide +kernel
theorem dX5_advance_234 : decode cX5_advance 234 = .ok (.putfield 60, 3) := by decide +kernel
theorem dX5_advance_237 : decode cX5_advance 237 = .ok (.goto 144, 3) := by decide +kernel
theorem dX5_advance_240 : decode cX5_advance 240 = .ok (.iload_n 2, 1) := by decide +kernel
theorem dX5_advance_241 : decode cX5_advance 241 = .ok (.bipush 48, 2) := by decide +kernel
theorem dX5_advance_243 : decode cX5_advance 243 = .ok (.if_icmp .lt 133, 3) := by decide +kernel
theorem dX5_advance_246 : decode cX5_advance 246 = .ok (.iload_n 2, 1) := by decide +kernel
theorem dX5_advance_247 : decode cX5_advance 247 = .ok (.bipush 57, 2) := by decide +kernel
theorem dX5_advance_249 : decode cX5_advance 249 = .ok (.if_icmp .gt 127, 3) := by decide +kernel
theorem dX5_advance_252 : decode cX5_advance 252 = .ok (.aload_n 0, 1) := by decide +kernel
theorem dX5_advance_253 : decode cX5_advance 253 = .ok (.iload_n 2, 1) := by decide +kernel
theorem dX5_advance_254 : decode cX5_advance 254 = .ok (.bipush 48, 2) := by decide +kernel
theorem dX5_advance_256 : decode cX5_advance 256 = .ok (.isub, 1) := by decide +kernel
theorem dX5_advance_257 : decode cX5_advance 257 = .ok (.putfield 66, 3) := by decide +kernel
theorem dX5_advance_260 : decode cX5_advance 260 = .ok (.aload_n 0, 1) := by decide +kernel
theorem dX5_advance_261 : decode cX5_advance 261 = .ok (.getfield 38, 3) := by decide +kernel
theorem dX5_advance_264 : decode cX5_advance 264 = .ok (.aload_n 0, 1) := by decide +kernel
theorem dX5_advance_265 : decode cX5_advance 265 = .ok (.getfield 35, 3) := by decide +kernel
theorem dX5_advance_268 : decode cX5_advance 268 = .ok (.if_icmp .ge 88, 3) := by decide +kernel
theorem dX5_advance_271 : decode cX5_advance 271 = .ok (.aload_n 0, 1) := by decide +kernel
theorem dX5_advance_272 : decode cX5_advance 272 = .ok (.getfield 9, 3) := by decide +kernel
theorem dX5_advance_275 : decode cX5_advance 275 = .ok (.aload_n 0, 1) := by decide +kernel
theorem dX5_advance_276 : decode cX5_advance 276 = .ok (.getfield 38, 3) := by decide +kernel
theorem dX5_advance_279 : decode cX5_advance 279 = .ok (.iaload, 1) := by decide +kernel
theorem dX5_advance_280 : decode cX5_advance 280 = .ok (.bipush 48, 2) := by decide +kernel
theorem dX5_advance_282 : decode cX5_advance 282 = .ok (.if_icmp .lt 74, 3) := by decide +kernel
theorem dX5_advance_285 : decode cX5_advance 285 = .ok (.aload_n 0, 1) := by decide +kernel
theorem dX5_advance_286 : decode cX5_advance 286 = .ok (.getfield 9, 3) := by decide +kernel
theorem dX5_advance_289 : decode cX5_advance 289 = .ok (.aload_n 0, 1) := by decide +kernel
theorem dX5_advance_290 : decode cX5_advance 290 = .ok (.getfield 38, 3) := by decide +kernel
theorem dX5_advance_293 : decode cX5_advance 293 = .ok (.iaload, 1) := by decide +kernel
theorem dX5_advance_294 : decode cX5_advance 294 = .ok (.bipush 57, 2) := by decide +kernel
theorem dX5_advance_296 : decode cX5_advance 296 = .ok (.if_icmp .gt 60, 3) := by decide +kernel
theorem dX5_advance_299 : decode cX5_advance 299 = .ok (.aload_n 0, 1) := by decide +kernel
theorem dX5_advance_300 : decode cX5_advance 300 = .ok (.aload_n 0, 1) := by decide +kernel
theorem dX5_advance_301 : decode cX5_advance 301 = .ok (.getfield 38, 3) := by decide +kernel
theorem dX5_advance_304 : decode cX5_advance 304 = .ok (.aload_n 0, 1) := by decide +kernel
theorem dX5_advance_305 : decode cX5_advance 305 = .ok (.getfield 57, 3) := by decide +kernel
theorem dX5_advance_308 : decode cX5_advance 308 = .ok (.isub, 1) := by decide +kernel
theorem dX5_advance_309 : decode cX5_advance 309 = .ok (.iconst 4, 1) := by decide +kernel
theorem dX5_advance_310 : decode cX5_advance 310 = .ok (.if_icmp .ge 26, 3) := by decide +kernel
theorem dX5_advance_313 : decode cX5_advance 313 = .ok (.bipush 10, 2) := by decide +kernel
theorem dX5_advance_315 : decode cX5_advance 315 = .ok (.aload_n 0, 1) := by decide +kernel
theorem dX5_advance_316 : decode cX5_advance 316 = .ok (.getfield 66, 3) := by decide +kernel
theorem dX5_advance_319 : decode cX5_advance 319 = .ok (.imul, 1) := by decide +kernel
theorem dX5_advance_320 : decode cX5_advance 320 = .ok (.aload_n 0, 1) := by decide +kernel
theorem dX5_advance_321 : decode cX5_advance 321 = .ok (.getfield 9, 3) := by decide +kernel
theorem dX5_advance_324 : decode cX5_advance 324 = .ok (.aload_n 0, 1) := by decide +kernel
theorem dX5_advance_325 : decode cX5_advance 325 = .ok (.getfield 38, 3) := by decide +kernel
theorem dX5_advance_328 : decode cX5_advance 328 = .ok (.iaload, 1) := by decide +kernel
theorem dX5_advance_329 : decode cX5_advance 329 = .ok (.iadd, 1) := by decide +kernel
theorem dX5_advance_330 : decode cX5_advance 330 = .ok (.bipush 48, 2) := by decide +kernel
theorem dX5_advance_332 : decode cX5_advance 332 = .ok (.isub, 1) := by decide +kernel
theorem dX5_advance_333 : decode cX5_advance 333 = .ok (.goto 7, 3) := by decide +kernel
theorem dX5_advance_336 : decode cX5_advance 336 = .ok (.aload_n 0, 1) := by decide +kernel
theorem dX5_advance_337 : decode cX5_advance 337 = .ok (.getfield 66, 3) := by decide +kernel
theorem dX5_advance_340 : decode cX5_advance 340 = .ok (.putfield 66, 3) := by decide +kernel
theorem dX5_advance_343 : decode cX5_advance 343 = .ok (.aload_n 0, 1) := by decide +kernel
theorem dX5_advance_344 : decode cX5_advance 344 = .ok (.dup, 1) := by decide +kernel
theorem dX5_advance_345 : decode cX5_advance 345 = .ok (.getfield 38, 3) := by decide +kernel
theorem dX5_advance_348 : decode cX5_advance 348 = .ok (.iconst 1, 1) := by decide +kernel
theorem dX5_advance_349 : decode cX5_advance 349 = .ok (.iadd, 1) := by decide +kernel
theorem dX5_advance_350 : decode cX5_advance 350 = .ok (.putfield 38, 3) := by decide +kernel
theorem dX5_advance_353 : decode cX5_advance 353 = .ok (.goto (-93), 3) := by decide +kernel
theorem dX5_advance_356 : decode cX5_advance 356 = .ok (.aload_n 0, 1) := by decide +kernel
theorem dX5_advance_357 : decode cX5_advance 357 = .ok (.iload_n 1, 1) := by decide +kernel
theorem dX5_advance_358 : decode cX5_advance 358 = .ok (.ifCond .eq 9, 3) := by decide +kernel
theorem dX5_advance_361 : decode cX5_advance 361 = .ok (.sipush 257, 3) := by decide +kernel
theorem dX5_advance_364 : decode cX5_advance 364 = .ok (.goto 6, 3) := by decide +kernel
theorem dX5_advance_367 : decode cX5_advance 367 = .ok (.sipush 259, 3) := by decide +kernel
theorem dX5_advance_370 : decode cX5_advance 370 = .ok (.putfield 41, 3) := by decide +kernel
theorem dX5_advance_373 : decode cX5_advance 373 = .ok (.goto 8, 3) := by decide +kernel
theorem dX5_advance_376 : decode cX5_advance 376 = .ok (.aload_n 0, 1) := by decide +kernel
theorem dX5_advance_377 : decode cX5_advance 377 = .ok (.iload_n 2, 1) := by decide +kernel
theorem dX5_advance_378 : decode cX5_advance 378 = .ok (.putfield 41, 3) := by decide +kernel
theorem dX5_advance_381 : decode cX5_advance 381 = .ok (.return_, 1) := by decide +kernel
theorem dX5_wordBetween_0 : decode cX5_wordBetween 0 = .ok (.iconst 0, 1) := by decide +kernel
theorem dX5_wordBetween_1 : decode cX5_wordBetween 1 = .ok (.istore_n 3, 1) := by decide +kernel
theorem dX5_wordBetween_2 : decode cX5_wordBetween 2 = .ok (.iload_n 1, 1) := by decide +kernel
theorem dX5_wordBetween_3 : decode cX5_wordBetween 3 = .ok (.istore 4, 2) := by decide +kernel
theorem dX5_wordBetween_5 : decode cX5_wordBetween 5 = .ok (.iconst 1, 1) := by decide +kernel
theorem dX5_wordBetween_6 : decode cX5_wordBetween 6 = .ok (.istore 5, 2) := by decide +kernel
theorem dX5_wordBetween_8 : decode cX5_wordBetween 8 = .ok (.iconst 0, 1) := by decide +kernel
theorem dX5_wordBetween_9 : decode cX5_wordBetween 9 = .ok (.istore 6, 2) := by decide +kernel
theorem dX5_wordBetween_11 : decode cX5_wordBetween 11 = .ok (.iload 6, 2) := by decide +kernel
theorem dX5_wordBetween_13 : decode cX5_wordBetween 13 = .ok (.ldc 69, 2) := by decide +kernel
theorem dX5_wordBetween_15 : decode cX5_wordBetween 15 = .ok (.invokevirtual 71, 3) := by decide +kernel
theorem dX5_wordBetween_18 : decode cX5_wordBetween 18 = .ok (.if_icmp .ge 92, 3) := by decide +kernel
theorem dX5_wordBetween_21 : decode cX5_wordBetween 21 = .ok (.ldc 69, 2) := by decide +kernel
theorem dX5_wordBetween_23 : decode cX5_wordBetween 23 = .ok (.iload 6, 2) := by decide +kernel
theorem dX5_wordBetween_25 : decode cX5_wordBetween 25 = .ok (.invokevirtual 76, 3) := by decide +kernel
theorem dX5_wordBetween_28 : decode cX5_wordBetween 28 = .ok (.istore 7, 2) := by decide +kernel
theorem dX5_wordBetween_30 : decode cX5_wordBetween 30 = .ok (.iload 7, 2) := by decide +kernel
theorem dX5_wordBetween_32 : decode cX5_wordBetween 32 = .ok (.bipush 32, 2) := by decide +kernel
theorem dX5_wordBetween_34 : decode cX5_wordBetween 34 = .ok (.if_icmp .eq 48, 3) := by decide +kernel
theorem dX5_wordBetween_37 : decode cX5_wordBetween 37 = .ok (.iload 5, 2) := by decide +kernel
theorem dX5_wordBetween_39 : decode cX5_wordBetween 39 = .ok (.ifCond .eq 34, 3) := by decide +kernel
theorem dX5_wordBetween_42 : decode cX5_wordBetween 42 = .ok (.iload 4, 2) := by decide +kernel
theorem dX5_wordBetween_44 : decode cX5_wordBetween 44 = .ok (.iload_n 2, 1) := by decide +kernel
theorem dX5_wordBetween_45 : decode cX5_wordBetween 45 = .ok (.if_icmp .ge 28, 3) := by decide +kernel
theorem dX5_wordBetween_48 : decode cX5_wordBetween 48 = .ok (.iload 4, 2) := by decide +kernel
theorem dX5_wordBetween_50 : decode cX5_wordBetween 50 = .ok (.aload_n 0, 1) := by decide +kernel
theorem dX5_wordBetween_51 : decode cX5_wordBetween 51 = .ok (.getfield 35, 3) := by decide +kernel
theorem dX5_wordBetween_54 : decode cX5_wordBetween 54 = .ok (.if_icmp .ge 19, 3) := by decide +kernel
theorem dX5_wordBetween_57 : decode cX5_wordBetween 57 = .ok (.aload_n 0, 1) := by decide +kernel
theorem dX5_wordBetween_58 : decode cX5_wordBetween 58 = .ok (.getfield 9, 3) := by decide +kernel
theorem dX5_wordBetween_61 : decode cX5_wordBetween 61 = .ok (.iload 4, 2) := by decide +kernel
theorem dX5_wordBetween_63 : decode cX5_wordBetween 63 = .ok (.iaload, 1) := by decide +kernel
theorem dX5_wordBetween_64 : decode cX5_wordBetween 64 = .ok (.iload 7, 2) := by decide +kernel
theorem dX5_wordBetween_66 : decode cX5_wordBetween 66 = .ok (.if_icmp .ne 7, 3) := by decide +kernel
theorem dX5_wordBetween_69 : decode cX5_wordBetween 69 = .ok (.iconst 1, 1) := by decide +kernel
theorem dX5_wordBetween_70 : decode cX5_wordBetween 70 = .ok (.goto 4, 3) := by decide +kernel
theorem dX5_wordBetween_73 : decode cX5_wordBetween 73 = .ok (.iconst 0, 1) := by decide +kernel
theorem dX5_wordBetween_74 : decode cX5_wordBetween 74 = .ok (.istore 5, 2) := by decide +kernel
theorem dX5_wordBetween_76 : decode cX5_wordBetween 76 = .ok (.iinc 4 1, 3) := by decide +kernel
theorem dX5_wordBetween_79 : decode cX5_wordBetween 79 = .ok (.goto 25, 3) := by decide +kernel
theorem dX5_wordBetween_82 : decode cX5_wordBetween 82 = .ok (.iload 5, 2) := by decide +kernel
theorem dX5_wordBetween_84 : decode cX5_wordBetween 84 = .ok (.ifCond .eq 11, 3) := by decide +kernel
theorem dX5_wordBetween_87 : decode cX5_wordBetween 87 = .ok (.iload 4, 2) := by decide +kernel
theorem dX5_wordBetween_89 : decode cX5_wordBetween 89 = .ok (.iload_n 2, 1) := by decide +kernel
theorem dX5_wordBetween_90 : decode cX5_wordBetween 90 = .ok (.if_icmp .ne 5, 3) := by decide +kernel
theorem dX5_wordBetween_93 : decode cX5_wordBetween 93 = .ok (.iload_n 3, 1) := by decide +kernel
theorem dX5_wordBetween_94 : decode cX5_wordBetween 94 = .ok (.ireturn, 1) := by decide +kernel
theorem dX5_wordBetween_95 : decode cX5_wordBetween 95 = .ok (.iinc 3 1, 3) := by decide +kernel
theorem dX5_wordBetween_98 : decode cX5_wordBetween 98 = .ok (.iload_n 1, 1) := by decide +kernel
theorem dX5_wordBetween_99 : decode cX5_wordBetween 99 = .ok (.istore 4, 2) := by decide +kernel
theorem dX5_wordBetween_101 : decode cX5_wordBetween 101 = .ok (.iconst 1, 1) := by decide +kernel
theorem dX5_wordBetween_102 : decode cX5_wordBetween 102 = .ok (.istore 5, 2) := by decide +kernel
theorem dX5_wordBetween_104 : decode cX5_wordBetween 104 = .ok (.iinc 6 1, 3) := by decide +kernel
theorem dX5_wordBetween_107 : decode cX5_wordBetween 107 = .ok (.goto (-96), 3) := by decide +kernel
theorem dX5_wordBetween_110 : decode cX5_wordBetween 110 = .ok (.iconst (-1), 1) := by decide +kernel
theorem dX5_wordBetween_111 : decode cX5_wordBetween 111 = .ok (.ireturn, 1) := by decide +kernel
theorem dX5_isWord_0 : decode cX5_isWord 0 = .ok (.aload_n 0, 1) := by decide +kernel
theorem dX5_isWord_1 : decode cX5_isWord 1 = .ok (.getfield 41, 3) := by decide +kernel
theorem dX5_isWord_4 : decode cX5_isWord 4 = .ok (.sipush 256, 3) := by decide +kernel
theorem dX5_isWord_7 : decode cX5_isWord 7 = .ok (.if_icmp .ne 15, 3) := by decide +kernel
theorem dX5_isWord_10 : decode cX5_isWord 10 = .ok (.aload_n 0, 1) := by decide +kernel
theorem dX5_isWord_11 : decode cX5_isWord 11 = .ok (.getfield 60, 3) := by decide +kernel
theorem dX5_isWord_14 : decode cX5_isWord 14 = .ok (.iload_n 1, 1) := by decide +kernel
theorem dX5_isWord_15 : decode cX5_isWord 15 = .ok (.if_icmp .ne 7, 3) := by decide +kernel
theorem dX5_isWord_18 : decode cX5_isWord 18 = .ok (.iconst 1, 1) := by decide +kernel
theorem dX5_isWord_19 : decode cX5_isWord 19 = .ok (.goto 4, 3) := by decide +kernel
theorem dX5_isWord_22 : decode cX5_isWord 22 = .ok (.iconst 0, 1) := by decide +kernel
theorem dX5_isWord_23 : decode cX5_isWord 23 = .ok (.ireturn, 1) := by decide +kernel
theorem dX5_expect_0 : decode cX5_expect 0 = .ok (.aload_n 0, 1) := by decide +kernel
theorem dX5_expect_1 : decode cX5_expect 1 = .ok (.iload_n 1, 1) := by decide +kernel
theorem dX5_expect_2 : decode cX5_expect 2 = .ok (.invokevirtual 80, 3) := by decide +kernel
theorem dX5_expect_5 : decode cX5_expect 5 = .ok (.ifCond .eq 10, 3) := by decide +kernel
theorem dX5_expect_8 : decode cX5_expect 8 = .ok (.aload_n 0, 1) := by decide +kernel
theorem dX5_expect_9 : decode cX5_expect 9 = .ok (.invokevirtual 54, 3) := by decide +kernel
theorem dX5_expect_12 : decode cX5_expect 12 = .ok (.goto 12, 3) := by decide +kernel
theorem dX5_expect_15 : decode cX5_expect 15 = .ok (.aload_n 0, 1) := by decide +kernel
theorem dX5_expect_16 : decode cX5_expect 16 = .ok (.iconst 1, 1) := by decide +kernel
theorem dX5_expect_17 : decode cX5_expect 17 = .ok (.aload_n 0, 1) := by decide +kernel
theorem dX5_expect_18 : decode cX5_expect 18 = .ok (.getfield 57, 3) := by decide +kernel
theorem dX5_expect_21 : decode cX5_expect 21 = .ok (.invokevirtual 84, 3) := by decide +kernel
theorem dX5_expect_24 : decode cX5_expect 24 = .ok (.return_, 1) := by decide +kernel
theorem dX5_expectSign_0 : decode cX5_expectSign 0 = .ok (.aload_n 0, 1) := by decide +kernel
theorem dX5_expectSign_1 : decode cX5_expectSign 1 = .ok (.getfield 41, 3) := by decide +kernel
theorem dX5_expectSign_4 : decode cX5_expectSign 4 = .ok (.iload_n 1, 1) := by decide +kernel
theorem dX5_expectSign_5 : decode cX5_expectSign 5 = .ok (.if_icmp .ne 10, 3) := by decide +kernel
theorem dX5_expectSign_8 : decode cX5_expectSign 8 = .ok (.aload_n 0, 1) := by decide +kernel
theorem dX5_expectSign_9 : decode cX5_expectSign 9 = .ok (.invokevirtual 54, 3) := by decide +kernel
theorem dX5_expectSign_12 : decode cX5_expectSign 12 = .ok (.goto 12, 3) := by decide +kernel
theorem dX5_expectSign_15 : decode cX5_expectSign 15 = .ok (.aload_n 0, 1) := by decide +kernel
theorem dX5_expectSign_16 : decode cX5_expectSign 16 = .ok (.iconst 1, 1) := by decide +kernel
theorem dX5_expectSign_17 : decode cX5_expectSign 17 = .ok (.aload_n 0, 1) := by decide +kernel
theorem dX5_expectSign_18 : decode cX5_expectSign 18 = .ok (.getfield 57, 3) := by decide +kernel
theorem dX5_expectSign_21 : decode cX5_expectSign 21 = .ok (.invokevirtual 84, 3) := by decide +kernel
theorem dX5_expectSign_24 : decode cX5_expectSign 24 = .ok (.return_, 1) := by decide +kernel
theorem dX5_number_0 : decode cX5_number 0 = .ok (.aload_n 0, 1) := by decide +kernel
theorem dX5_number_1 : decode cX5_number 1 = .ok (.getfield 66, 3) := by decide +kernel
theorem dX5_number_4 : decode cX5_number 4 = .ok (.istore_n 3, 1) := by decide +kernel
theorem dX5_number_5 : decode cX5_number 5 = .ok (.aload_n 0, 1) := by decide +kernel
theorem dX5_number_6 : decode cX5_number 6 = .ok (.getfield 41, 3) := by decide +kernel
theorem dX5_number_9 : decode cX5_number 9 = .ok (.sipush 257, 3) := by decide +kernel
theorem dX5_number_12 : decode cX5_number 12 = .ok (.if_icmp .eq 15, 3) := by decide +kernel
theorem dX5_number_15 : decode cX5_number 15 = .ok (.aload_n 0, 1) := by decide +kernel
theorem dX5_number_16 : decode cX5_number 16 = .ok (.iconst 1, 1) := by decide +kernel
theorem dX5_number_17 : decode cX5_number 17 = .ok (.aload_n 0, 1) := by decide +kernel
theorem dX5_number_18 : decode cX5_number 18 = .ok (.getfield 57, 3) := by decide +kernel
theorem dX5_number_21 : decode cX5_number 21 = .ok (.invokevirtual 84, 3) := by decide +kernel
theorem dX5_number_24 : decode cX5_number 24 = .ok (.goto 56, 3) := by decide +kernel
theorem dX5_number_27 : decode cX5_number 27 = .ok (.aload_n 0, 1) := by decide +kernel
theorem dX5_number_28 : decode cX5_number 28 = .ok (.getfield 38, 3) := by decide +kernel
theorem dX5_number_31 : decode cX5_number 31 = .ok (.aload_n 0, 1) := by decide +kernel
theorem dX5_number_32 : decode cX5_number 32 = .ok (.getfield 57, 3) := by decide +kernel
theorem dX5_number_35 : decode cX5_number 35 = .ok (.isub, 1) := by decide +kernel
theorem dX5_number_36 : decode cX5_number 36 = .ok (.iconst 4, 1) := by decide +kernel
theorem dX5_number_37 : decode cX5_number 37 = .ok (.if_icmp .le 17, 3) := by decide +kernel
theorem dX5_number_40 : decode cX5_number 40 = .ok (.aload_n 0, 1) := by decide +kernel
theorem dX5_number_41 : decode cX5_number 41 = .ok (.iconst 1, 1) := by decide +kernel
theorem dX5_number_42 : decode cX5_number 42 = .ok (.aload_n 0, 1) := by decide +kernel
theorem dX5_number_43 : decode cX5_number 43 = .ok (.getfield 57, 3) := by decide +kernel
theorem dX5_number_46 : decode cX5_number 46 = .ok (.iconst 4, 1) := by decide +kernel
theorem dX5_number_47 : decode cX5_number 47 = .ok (.iadd, 1) := by decide +kernel
theorem dX5_number_48 : decode cX5_number 48 = .ok (.invokevirtual 84, 3) := by decide +kernel
theorem dX5_number_51 : decode cX5_number 51 = .ok (.goto 29, 3) := by decide +kernel
theorem dX5_number_54 : decode cX5_number 54 = .ok (.iload_n 3, 1) := by decide +kernel
theorem dX5_number_55 : decode cX5_number 55 = .ok (.iload_n 1, 1) := by decide +kernel
theorem dX5_number_56 : decode cX5_number 56 = .ok (.if_icmp .lt 8, 3) := by decide +kernel
theorem dX5_number_59 : decode cX5_number 59 = .ok (.iload_n 3, 1) := by decide +kernel
theorem dX5_number_60 : decode cX5_number 60 = .ok (.iload_n 2, 1) := by decide +kernel
theorem dX5_number_61 : decode cX5_number 61 = .ok (.if_icmp .le 15, 3) := by decide +kernel
theorem dX5_number_64 : decode cX5_number 64 = .ok (.aload_n 0, 1) := by decide +kernel
theorem dX5_number_65 : decode cX5_number 65 = .ok (.iconst 2, 1) := by decide +kernel
theorem dX5_number_66 : decode cX5_number 66 = .ok (.aload_n 0, 1) := by decide +kernel
theorem dX5_number_67 : decode cX5_number 67 = .ok (.getfield 57, 3) := by decide +kernel
theorem dX5_number_70 : decode cX5_number 70 = .ok (.invokevirtual 84, 3) := by decide +kernel
theorem dX5_number_73 : decode cX5_number 73 = .ok (.goto 7, 3) := by decide +kernel
theorem dX5_number_76 : decode cX5_number 76 = .ok (.aload_n 0, 1) := by decide +kernel
theorem dX5_number_77 : decode cX5_number 77 = .ok (.invokevirtual 54, 3) := by decide +kernel
theorem dX5_number_80 : decode cX5_number 80 = .ok (.iload_n 3, 1) := by decide +kernel
theorem dX5_number_81 : decode cX5_number 81 = .ok (.ireturn, 1) := by decide +kernel
theorem dX5_readRoom_0 : decode cX5_readRoom 0 = .ok (.aload_n 1, 1) := by decide +kernel
theorem dX5_readRoom_1 : decode cX5_readRoom 1 = .ok (.invokevirtual 88, 3) := by decide +kernel
theorem dX5_readRoom_4 : decode cX5_readRoom 4 = .ok (.aload_n 0, 1) := by decide +kernel
theorem dX5_readRoom_5 : decode cX5_readRoom 5 = .ok (.aload_n 1, 1) := by decide +kernel
theorem dX5_readRoom_6 : decode cX5_readRoom 6 = .ok (.getfield 93, 3) := by decide +kernel
theorem dX5_readRoom_9 : decode cX5_readRoom 9 = .ok (.aload_n 2, 1) := by decide +kernel
theorem dX5_readRoom_10 : decode cX5_readRoom 10 = .ok (.iload_n 3, 1) := by decide +kernel
theorem dX5_readRoom_11 : decode cX5_readRoom 11 = .ok (.invokevirtual 96, 3) := by decide +kernel
theorem dX5_readRoom_14 : decode cX5_readRoom 14 = .ok (.aload_n 0, 1) := by decide +kernel
theorem dX5_readRoom_15 : decode cX5_readRoom 15 = .ok (.getfield 41, 3) := by decide +kernel
theorem dX5_readRoom_18 : decode cX5_readRoom 18 = .ok (.sipush 258, 3) := by decide +kernel
theorem dX5_readRoom_21 : decode cX5_readRoom 21 = .ok (.if_icmp .ne 12, 3) := by decide +kernel
theorem dX5_readRoom_24 : decode cX5_readRoom 24 = .ok (.aload_n 0, 1) := by decide +kernel
theorem dX5_readRoom_25 : decode cX5_readRoom 25 = .ok (.iconst 1, 1) := by decide +kernel
theorem dX5_readRoom_26 : decode cX5_readRoom 26 = .ok (.aload_n 0, 1) := by decide +kernel
theorem dX5_readRoom_27 : decode cX5_readRoom 27 = .ok (.getfield 57, 3) := by decide +kernel
theorem dX5_readRoom_30 : decode cX5_readRoom 30 = .ok (.invokevirtual 84, 3) := by decide +kernel
theorem dX5_readRoom_33 : decode cX5_readRoom 33 = .ok (.iconst 0, 1) := by decide +kernel
theorem dX5_readRoom_34 : decode cX5_readRoom 34 = .ok (.istore 4, 2) := by decide +kernel
theorem dX5_readRoom_36 : decode cX5_readRoom 36 = .ok (.iload 4, 2) := by decide +kernel
theorem dX5_readRoom_38 : decode cX5_readRoom 38 = .ok (.bipush 60, 2) := by decide +kernel
theorem dX5_readRoom_40 : decode cX5_readRoom 40 = .ok (.if_icmp .gt 165, 3) := by decide +kernel
theorem dX5_readRoom_43 : decode cX5_readRoom 43 = .ok (.aload_n 0, 1) := by decide +kernel
theorem dX5_readRoom_44 : decode cX5_readRoom 44 = .ok (.getfield 44, 3) := by decide +kernel
theorem dX5_readRoom_47 : decode cX5_readRoom 47 = .ok (.ifCond .ne 158, 3) := by decide +kernel
theorem dX5_readRoom_50 : decode cX5_readRoom 50 = .ok (.aload_n 0, 1) := by decide +kernel
theorem dX5_readRoom_51 : decode cX5_readRoom 51 = .ok (.getfield 41, 3) := by decide +kernel
theorem dX5_readRoom_54 : decode cX5_readRoom 54 = .ok (.sipush 258, 3) := by decide +kernel
theorem dX5_readRoom_57 : decode cX5_readRoom 57 = .ok (.if_icmp .eq 148, 3) := by decide +kernel
theorem dX5_readRoom_60 : decode cX5_readRoom 60 = .ok (.aload_n 0, 1) := by decide +kernel
theorem dX5_readRoom_61 : decode cX5_readRoom 61 = .ok (.getfield 41, 3) := by decide +kernel
theorem dX5_readRoom_64 : decode cX5_readRoom 64 = .ok (.sipush 256, 3) := by decide +kernel
theorem dX5_readRoom_67 : decode cX5_readRoom 67 = .ok (.if_icmp .ne 10, 3) := by decide +kernel
theorem dX5_readRoom_70 : decode cX5_readRoom 70 = .ok (.aload_n 0, 1) := by decide +kernel
theorem dX5_readRoom_71 : decode cX5_readRoom 71 = .ok (.getfield 60, 3) := by decide +kernel
theorem dX5_readRoom_74 : decode cX5_readRoom 74 = .ok (.goto 4, 3) := by decide +kernel
theorem dX5_readRoom_77 : decode cX5_readRoom 77 = .ok (.iconst (-1), 1) := by decide +kernel
theorem dX5_readRoom_78 : decode cX5_readRoom 78 = .ok (.istore 5, 2) := by decide +kernel
theorem dX5_readRoom_80 : decode cX5_readRoom 80 = .ok (.iload 4, 2) := by decide +kernel
theorem dX5_readRoom_82 : decode cX5_readRoom 82 = .ok (.bipush 60, 2) := by decide +kernel
theorem dX5_readRoom_84 : decode cX5_readRoom 84 = .ok (.if_icmp .ne 15, 3) := by decide +kernel
theorem dX5_readRoom_87 : decode cX5_readRoom 87 = .ok (.aload_n 0, 1) := by decide +kernel
theorem dX5_readRoom_88 : decode cX5_readRoom 88 = .ok (.iconst 5, 1) := by decide +kernel
theorem dX5_readRoom_89 : decode cX5_readRoom 89 = .ok (.aload_n 0, 1) := by decide +kernel
theorem dX5_readRoom_90 : decode cX5_readRoom 90 = .ok (.getfield 57, 3) := by decide +kernel
theorem dX5_readRoom_93 : decode cX5_readRoom 93 = .ok (.invokevirtual 84, 3) := by decide +kernel
theorem dX5_readRoom_96 : decode cX5_readRoom 96 = .ok (.goto 87, 3) := by decide +kernel
theorem dX5_readRoom_99 : decode cX5_readRoom 99 = .ok (.iload 4, 2) := by decide +kernel
theorem dX5_readRoom_101 : decode cX5_readRoom 101 = .ok (.ifCond .ne 7, 3) := by decide +kernel
theorem dX5_readRoom_104 : decode cX5_readRoom 104 = .ok (.iconst 1, 1) := by decide +kernel
theorem dX5_readRoom_105 : decode cX5_readRoom 105 = .ok (.goto 4, 3) := by decide +kernel
theorem dX5_readRoom_108 : decode cX5_readRoom 108 = .ok (.iconst 0, 1) := by decide +kernel
theorem dX5_readRoom_109 : decode cX5_readRoom 109 = .ok (.iload 5, 2) := by decide +kernel
theorem dX5_readRoom_111 : decode cX5_readRoom 111 = .ok (.ifCond .ne 7, 3) := by decide +kernel
theorem dX5_readRoom_114 : decode cX5_readRoom 114 = .ok (.iconst 1, 1) := by decide +kernel
theorem dX5_readRoom_115 : decode cX5_readRoom 115 = .ok (.goto 4, 3) := by decide +kernel
theorem dX5_readRoom_118 : decode cX5_readRoom 118 = .ok (.iconst 0, 1) := by decide +kernel
theorem dX5_readRoom_119 : decode cX5_readRoom 119 = .ok (.if_icmp .eq 15, 3) := by decide +kernel
theorem dX5_readRoom_122 : decode cX5_readRoom 122 = .ok (.aload_n 0, 1) := by decide +kernel
theorem dX5_readRoom_123 : decode cX5_readRoom 123 = .ok (.iconst 1, 1) := by decide +kernel
theorem dX5_readRoom_124 : decode cX5_readRoom 124 = .ok (.aload_n 0, 1) := by decide +kernel
theorem dX5_readRoom_125 : decode cX5_readRoom 125 = .ok (.getfield 57, 3) := by decide +kernel
theorem dX5_readRoom_128 : decode cX5_readRoom 128 = .ok (.invokevirtual 84, 3) := by decide +kernel
theorem dX5_readRoom_131 : decode cX5_readRoom 131 = .ok (.goto 52, 3) := by decide +kernel
theorem dX5_readRoom_134 : decode cX5_readRoom 134 = .ok (.iload 5, 2) := by decide +kernel
theorem dX5_readRoom_136 : decode cX5_readRoom 136 = .ok (.ifCond .ne 11, 3) := by decide +kernel
theorem dX5_readRoom_139 : decode cX5_readRoom 139 = .ok (.aload_n 0, 1) := by decide +kernel
theorem dX5_readRoom_140 : decode cX5_readRoom 140 = .ok (.aload_n 1, 1) := by decide +kernel
theorem dX5_readRoom_141 : decode cX5_readRoom 141 = .ok (.invokevirtual 100, 3) := by decide +kernel
theorem dX5_readRoom_144 : decode cX5_readRoom 144 = .ok (.goto 39, 3) := by decide +kernel
theorem dX5_readRoom_147 : decode cX5_readRoom 147 = .ok (.iload 5, 2) := by decide +kernel
theorem dX5_readRoom_149 : decode cX5_readRoom 149 = .ok (.iconst 3, 1) := by decide +kernel
theorem dX5_readRoom_150 : decode cX5_readRoom 150 = .ok (.if_icmp .ne 11, 3) := by decide +kernel
theorem dX5_readRoom_153 : decode cX5_readRoom 153 = .ok (.aload_n 0, 1) := by decide +kernel
theorem dX5_readRoom_154 : decode cX5_readRoom 154 = .ok (.aload_n 1, 1) := by decide +kernel
theorem dX5_readRoom_155 : decode cX5_readRoom 155 = .ok (.invokevirtual 104, 3) := by decide +kernel
theorem dX5_readRoom_158 : decode cX5_readRoom 158 = .ok (.goto 25, 3) := by decide +kernel
theorem dX5_readRoom_161 : decode cX5_readRoom 161 = .ok (.iload 5, 2) := by decide +kernel
theorem dX5_readRoom_163 : decode cX5_readRoom 163 = .ok (.bipush 7, 2) := by decide +kernel
theorem dX5_readRoom_165 : decode cX5_readRoom 165 = .ok (.if_icmp .ne 11, 3) := by decide +kernel
theorem dX5_readRoom_168 : decode cX5_readRoom 168 = .ok (.aload_n 0, 1) := by decide +kernel
theorem dX5_readRoom_169 : decode cX5_readRoom 169 = .ok (.aload_n 1, 1) := by decide +kernel
theorem dX5_readRoom_170 : decode cX5_readRoom 170 = .ok (.invokevirtual 107, 3) := by decide +kernel
theorem dX5_readRoom_173 : decode cX5_readRoom 173 = .ok (.goto 10, 3) := by decide +kernel
theorem dX5_readRoom_176 : decode cX5_readRoom 176 = .ok (.aload_n 0, 1) := by decide +kernel
theorem dX5_readRoom_177 : decode cX5_readRoom 177 = .ok (.aload_n 1, 1) := by decide +kernel
theorem dX5_readRoom_178 : decode cX5_readRoom 178 = .ok (.iload 5, 2) := by decide +kernel
theorem dX5_readRoom_180 : decode cX5_readRoom 180 = .ok (.invokevirtual 110, 3) := by decide +kernel
theorem dX5_readRoom_183 : decode cX5_readRoom 183 = .ok (.aload_n 0, 1) := by decide +kernel
theorem dX5_readRoom_184 : decode cX5_readRoom 184 = .ok (.bipush 59, 2) := by decide +kernel
theorem dX5_readRoom_186 : decode cX5_readRoom 186 = .ok (.invokevirtual 114, 3) := by decide +kernel
theorem dX5_readRoom_189 : decode cX5_readRoom 189 = .ok (.aload_n 1, 1) := by decide +kernel
theorem dX5_readRoom_190 : decode cX5_readRoom 190 = .ok (.dup, 1) := by decide +kernel
theorem dX5_readRoom_191 : decode cX5_readRoom 191 = .ok (.getfield 118, 3) := by decide +kernel
theorem dX5_readRoom_194 : decode cX5_readRoom 194 = .ok (.iconst 1, 1) := by decide +kernel
theorem dX5_readRoom_195 : decode cX5_readRoom 195 = .ok (.iadd, 1) := by decide +kernel
theorem dX5_readRoom_196 : decode cX5_readRoom 196 = .ok (.putfield 118, 3) := by decide +kernel
theorem dX5_readRoom_199 : decode cX5_readRoom 199 = .ok (.iinc 4 1, 3) := by decide +kernel
theorem dX5_readRoom_202 : decode cX5_readRoom 202 = .ok (.goto (-166), 3) := by decide +kernel
theorem dX5_readRoom_205 : decode cX5_readRoom 205 = .ok (.return_, 1) := by decide +kernel
theorem dX5_tellMinutes_0 : decode cX5_tellMinutes 0 = .ok (.iload_n 2, 1) := by decide +kernel
theorem dX5_tellMinutes_1 : decode cX5_tellMinutes 1 = .ok (.bipush 9, 2) := by decide +kernel
theorem dX5_tellMinutes_3 : decode cX5_tellMinutes 3 = .ok (.isub, 1) := by decide +kernel
theorem dX5_tellMinutes_4 : decode cX5_tellMinutes 4 = .ok (.istore_n 3, 1) := by decide +kernel
theorem dX5_tellMinutes_5 : decode cX5_tellMinutes 5 = .ok (.iload_n 3, 1) := by decide +kernel
theorem dX5_tellMinutes_6 : decode cX5_tellMinutes 6 = .ok (.ifCond .lt 12, 3) := by decide +kernel
theorem dX5_tellMinutes_9 : decode cX5_tellMinutes 9 = .ok (.iload_n 3, 1) := by decide +kernel
theorem dX5_tellMinutes_10 : decode cX5_tellMinutes 10 = .ok (.aload_n 1, 1) := by decide +kernel
theorem dX5_tellMinutes_11 : decode cX5_tellMinutes 11 = .ok (.getfield 121, 3) := by decide +kernel
theorem dX5_tellMinutes_14 : decode cX5_tellMinutes 14 = .ok (.arraylength, 1) := by decide +kernel
theorem dX5_tellMinutes_15 : decode cX5_tellMinutes 15 = .ok (.if_icmp .lt 13, 3) := by decide +kernel
theorem dX5_tellMinutes_18 : decode cX5_tellMinutes 18 = .ok (.aload_n 0, 1) := by decide +kernel
theorem dX5_tellMinutes_19 : decode cX5_tellMinutes 19 = .ok (.iconst 1, 1) := by decide +kernel
theorem dX5_tellMinutes_20 : decode cX5_tellMinutes 20 = .ok (.aload_n 0, 1) := by decide +kernel
theorem dX5_tellMinutes_21 : decode cX5_tellMinutes 21 = .ok (.getfield 57, 3) := by decide +kernel
theorem dX5_tellMinutes_24 : decode cX5_tellMinutes 24 = .ok (.invokevirtual 84, 3) := by decide +kernel
theorem dX5_tellMinutes_27 : decode cX5_tellMinutes 27 = .ok (.return_, 1) := by decide +kernel
theorem dX5_tellMinutes_28 : decode cX5_tellMinutes 28 = .ok (.aload_n 0, 1) := by decide +kernel
theorem dX5_tellMinutes_29 : decode cX5_tellMinutes 29 = .ok (.invokevirtual 54, 3) := by decide +kernel
theorem dX5_tellMinutes_32 : decode cX5_tellMinutes 32 = .ok (.aload_n 1, 1) := by decide +kernel
theorem dX5_tellMinutes_33 : decode cX5_tellMinutes 33 = .ok (.getfield 121, 3) := by decide +kernel
theorem dX5_tellMinutes_36 : decode cX5_tellMinutes 36 = .ok (.iload_n 3, 1) := by decide +kernel
theorem dX5_tellMinutes_37 : decode cX5_tellMinutes 37 = .ok (.aload_n 0, 1) := by decide +kernel
theorem dX5_tellMinutes_38 : decode cX5_tellMinutes 38 = .ok (.getstatic 124, 3) := by decide +kernel
theorem dX5_tellMinutes_41 : decode cX5_tellMinutes 41 = .ok (.iload_n 3, 1) := by decide +kernel
theorem dX5_tellMinutes_42 : decode cX5_tellMinutes 42 = .ok (.iaload, 1) := by decide +kernel
theorem dX5_tellMinutes_43 : decode cX5_tellMinutes 43 = .ok (.getstatic 127, 3) := by decide +kernel
theorem dX5_tellMinutes_46 : decode cX5_tellMinutes 46 = .ok (.iload_n 3, 1) := by decide +kernel
theorem dX5_tellMinutes_47 : decode cX5_tellMinutes 47 = .ok (.iaload, 1) := by decide +kernel
theorem dX5_tellMinutes_48 : decode cX5_tellMinutes 48 = .ok (.invokevirtual 130, 3) := by decide +kernel
theorem dX5_tellMinutes_51 : decode cX5_tellMinutes 51 = .ok (.iastore, 1) := by decide +kernel
theorem dX5_tellMinutes_52 : decode cX5_tellMinutes 52 = .ok (.return_, 1) := by decide +kernel
theorem dX5_tellLengths_0 : decode cX5_tellLengths 0 = .ok (.aload_n 0, 1) := by decide +kernel
theorem dX5_tellLengths_1 : decode cX5_tellLengths 1 = .ok (.invokevirtual 54, 3) := by decide +kernel
theorem dX5_tellLengths_4 : decode cX5_tellLengths 4 = .ok (.iconst 0, 1) := by decide +kernel
theorem dX5_tellLengths_5 : decode cX5_tellLengths 5 = .ok (.istore_n 2, 1) := by decide +kernel
theorem dX5_tellLengths_6 : decode cX5_tellLengths 6 = .ok (.aload_n 0, 1) := by decide +kernel
theorem dX5_tellLengths_7 : decode cX5_tellLengths 7 = .ok (.getfield 57, 3) := by decide +kernel
theorem dX5_tellLengths_10 : decode cX5_tellLengths 10 = .ok (.istore_n 3, 1) := by decide +kernel
theorem dX5_tellLengths_11 : decode cX5_tellLengths 11 = .ok (.iconst 0, 1) := by decide +kernel
theorem dX5_tellLengths_12 : decode cX5_tellLengths 12 = .ok (.istore 4, 2) := by decide +kernel
theorem dX5_tellLengths_14 : decode cX5_tellLengths 14 = .ok (.iload 4, 2) := by decide +kernel
theorem dX5_tellLengths_16 : decode cX5_tellLengths 16 = .ok (.bipush 6, 2) := by decide +kernel
theorem dX5_tellLengths_18 : decode cX5_tellLengths 18 = .ok (.if_icmp .ge 92, 3) := by decide +kernel
theorem dX5_tellLengths_21 : decode cX5_tellLengths 21 = .ok (.iload 4, 2) := by decide +kernel
theorem dX5_tellLengths_23 : decode cX5_tellLengths 23 = .ok (.ifCond .eq 11, 3) := by decide +kernel
theorem dX5_tellLengths_26 : decode cX5_tellLengths 26 = .ok (.aload_n 0, 1) := by decide +kernel
theorem dX5_tellLengths_27 : decode cX5_tellLengths 27 = .ok (.iconst 1, 1) := by decide +kernel
theorem dX5_tellLengths_28 : decode cX5_tellLengths 28 = .ok (.invokevirtual 80, 3) := by decide +kernel
theorem dX5_tellLengths_31 : decode cX5_tellLengths 31 = .ok (.ifCond .eq 79, 3) := by decide +kernel
theorem dX5_tellLengths_34 : decode cX5_tellLengths 34 = .ok (.aload_n 0, 1) := by decide +kernel
theorem dX5_tellLengths_35 : decode cX5_tellLengths 35 = .ok (.iconst 1, 1) := by decide +kernel
theorem dX5_tellLengths_36 : decode cX5_tellLengths 36 = .ok (.invokevirtual 133, 3) := by decide +kernel
theorem dX5_tellLengths_39 : decode cX5_tellLengths 39 = .ok (.aload_n 0, 1) := by decide +kernel
theorem dX5_tellLengths_40 : decode cX5_tellLengths 40 = .ok (.getfield 57, 3) := by decide +kernel
theorem dX5_tellLengths_43 : decode cX5_tellLengths 43 = .ok (.istore 5, 2) := by decide +kernel
theorem dX5_tellLengths_45 : decode cX5_tellLengths 45 = .ok (.aload_n 0, 1) := by decide +kernel
theorem dX5_tellLengths_46 : decode cX5_tellLengths 46 = .ok (.iconst 1, 1) := by decide +kernel
theorem dX5_tellLengths_47 : decode cX5_tellLengths 47 = .ok (.bipush 99, 2) := by decide +kernel
theorem dX5_tellLengths_49 : decode cX5_tellLengths 49 = .ok (.invokevirtual 130, 3) := by decide +kernel
theorem dX5_tellLengths_52 : decode cX5_tellLengths 52 = .ok (.istore 6, 2) := by decide +kernel
theorem dX5_tellLengths_54 : decode cX5_tellLengths 54 = .ok (.aload_n 1, 1) := by decide +kernel
theorem dX5_tellLengths_55 : decode cX5_tellLengths 55 = .ok (.iload 6, 2) := by decide +kernel
theorem dX5_tellLengths_57 : decode cX5_tellLengths 57 = .ok (.invokevirtual 136, 3) := by decide +kernel
theorem dX5_tellLengths_60 : decode cX5_tellLengths 60 = .ok (.ifCond .eq 10, 3) := by decide +kernel
theorem dX5_tellLengths_63 : decode cX5_tellLengths 63 = .ok (.aload_n 0, 1) := by decide +kernel
theorem dX5_tellLengths_64 : decode cX5_tellLengths 64 = .ok (.iconst 2, 1) := by decide +kernel
theorem dX5_tellLengths_65 : decode cX5_tellLengths 65 = .ok (.iload 5, 2) := by decide +kernel
theorem dX5_tellLengths_67 : decode cX5_tellLengths 67 = .ok (.invokevirtual 84, 3) := by decide +kernel
theorem dX5_tellLengths_70 : decode cX5_tellLengths 70 = .ok (.aload_n 0, 1) := by decide +kernel
theorem dX5_tellLengths_71 : decode cX5_tellLengths 71 = .ok (.iconst 2, 1) := by decide +kernel
theorem dX5_tellLengths_72 : decode cX5_tellLengths 72 = .ok (.invokevirtual 133, 3) := by decide +kernel
theorem dX5_tellLengths_75 : decode cX5_tellLengths 75 = .ok (.aload_n 0, 1) := by decide +kernel
theorem dX5_tellLengths_76 : decode cX5_tellLengths 76 = .ok (.getfield 57, 3) := by decide +kernel
theorem dX5_tellLengths_79 : decode cX5_tellLengths 79 = .ok (.istore_n 3, 1) := by decide +kernel
theorem dX5_tellLengths_80 : decode cX5_tellLengths 80 = .ok (.aload_n 0, 1) := by decide +kernel
theorem dX5_tellLengths_81 : decode cX5_tellLengths 81 = .ok (.iconst 1, 1) := by decide +kernel
theorem dX5_tellLengths_82 : decode cX5_tellLengths 82 = .ok (.bipush 100, 2) := by decide +kernel
theorem dX5_tellLengths_84 : decode cX5_tellLengths 84 = .ok (.iload_n 2, 1) := by decide +kernel
theorem dX5_tellLengths_85 : decode cX5_tellLengths 85 = .ok (.isub, 1) := by decide +kernel
theorem dX5_tellLengths_86 : decode cX5_tellLengths 86 = .ok (.invokevirtual 130, 3) := by decide +kernel
theorem dX5_tellLengths_89 : decode cX5_tellLengths 89 = .ok (.istore 7, 2) := by decide +kernel
theorem dX5_tellLengths_91 : decode cX5_tellLengths 91 = .ok (.iload_n 2, 1) := by decide +kernel
theorem dX5_tellLengths_92 : decode cX5_tellLengths 92 = .ok (.iload 7, 2) := by decide +kernel
theorem dX5_tellLengths_94 : decode cX5_tellLengths 94 = .ok (.iadd, 1) := by decide +kernel
theorem dX5_tellLengths_95 : decode cX5_tellLengths 95 = .ok (.istore_n 2, 1) := by decide +kernel
theorem dX5_tellLengths_96 : decode cX5_tellLengths 96 = .ok (.aload_n 1, 1) := by decide +kernel
theorem dX5_tellLengths_97 : decode cX5_tellLengths 97 = .ok (.iload 6, 2) := by decide +kernel
theorem dX5_tellLengths_99 : decode cX5_tellLengths 99 = .ok (.iload 7, 2) := by decide +kernel
theorem dX5_tellLengths_101 : decode cX5_tellLengths 101 = .ok (.invokevirtual 139, 3) := by decide +kernel
theorem dX5_tellLengths_104 : decode cX5_tellLengths 104 = .ok (.iinc 4 1, 3) := by decide +kernel
theorem dX5_tellLengths_107 : decode cX5_tellLengths 107 = .ok (.goto (-93), 3) := by decide +kernel
theorem dX5_tellLengths_110 : decode cX5_tellLengths 110 = .ok (.aload_n 0, 1) := by decide +kernel
theorem dX5_tellLengths_111 : decode cX5_tellLengths 111 = .ok (.iconst 1, 1) := by decide +kernel
theorem dX5_tellLengths_112 : decode cX5_tellLengths 112 = .ok (.invokevirtual 80, 3) := by decide +kernel
theorem dX5_tellLengths_115 : decode cX5_tellLengths 115 = .ok (.ifCond .eq 12, 3) := by decide +kernel
theorem dX5_tellLengths_118 : decode cX5_tellLengths 118 = .ok (.aload_n 0, 1) := by decide +kernel
theorem dX5_tellLengths_119 : decode cX5_tellLengths 119 = .ok (.iconst 5, 1) := by decide +kernel
theorem dX5_tellLengths_120 : decode cX5_tellLengths 120 = .ok (.aload_n 0, 1) := by decide +kernel
theorem dX5_tellLengths_121 : decode cX5_tellLengths 121 = .ok (.getfield 57, 3) := by decide +kernel
theorem dX5_tellLengths_124 : decode cX5_tellLengths 124 = .ok (.invokevirtual 84, 3) := by decide +kernel
theorem dX5_tellLengths_127 : decode cX5_tellLengths 127 = .ok (.iload_n 2, 1) := by decide +kernel
theorem dX5_tellLengths_128 : decode cX5_tellLengths 128 = .ok (.bipush 100, 2) := by decide +kernel
theorem dX5_tellLengths_130 : decode cX5_tellLengths 130 = .ok (.if_icmp .ge 9, 3) := by decide +kernel
theorem dX5_tellLengths_133 : decode cX5_tellLengths 133 = .ok (.aload_n 0, 1) := by decide +kernel
theorem dX5_tellLengths_134 : decode cX5_tellLengths 134 = .ok (.iconst 2, 1) := by decide +kernel
theorem dX5_tellLengths_135 : decode cX5_tellLengths 135 = .ok (.iload_n 3, 1) := by decide +kernel
theorem dX5_tellLengths_136 : decode cX5_tellLengths 136 = .ok (.invokevirtual 84, 3) := by decide +kernel
theorem dX5_tellLengths_139 : decode cX5_tellLengths 139 = .ok (.return_, 1) := by decide +kernel
theorem dX5_tellSeam_0 : decode cX5_tellSeam 0 = .ok (.aload_n 1, 1) := by decide +kernel
theorem dX5_tellSeam_1 : decode cX5_tellSeam 1 = .ok (.getfield 142, 3) := by decide +kernel
theorem dX5_tellSeam_4 : decode cX5_tellSeam 4 = .ok (.bipush 10, 2) := by decide +kernel
theorem dX5_tellSeam_6 : decode cX5_tellSeam 6 = .ok (.if_icmp .lt 13, 3) := by decide +kernel
theorem dX5_tellSeam_9 : decode cX5_tellSeam 9 = .ok (.aload_n 0, 1) := by decide +kernel
theorem dX5_tellSeam_10 : decode cX5_tellSeam 10 = .ok (.iconst 5, 1) := by decide +kernel
theorem dX5_tellSeam_11 : decode cX5_tellSeam 11 = .ok (.aload_n 0, 1) := by decide +kernel
theorem dX5_tellSeam_12 : decode cX5_tellSeam 12 = .ok (.getfield 57, 3) := by decide +kernel
theorem dX5_tellSeam_15 : decode cX5_tellSeam 15 = .ok (.invokevirtual 84, 3) := by decide +kernel
theorem dX5_tellSeam_18 : decode cX5_tellSeam 18 = .ok (.return_, 1) := by decide +kernel
theorem dX5_tellSeam_19 : decode cX5_tellSeam 19 = .ok (.aload_n 0, 1) := by decide +kernel
theorem dX5_tellSeam_20 : decode cX5_tellSeam 20 = .ok (.invokevirtual 54, 3) := by decide +kernel
theorem dX5_tellSeam_23 : decode cX5_tellSeam 23 = .ok (.aload_n 0, 1) := by decide +kernel
theorem dX5_tellSeam_24 : decode cX5_tellSeam 24 = .ok (.aload_n 1, 1) := by decide +kernel
theorem dX5_tellSeam_25 : decode cX5_tellSeam 25 = .ok (.aload_n 1, 1) := by decide +kernel
theorem dX5_tellSeam_26 : decode cX5_tellSeam 26 = .ok (.getfield 142, 3) := by decide +kernel
theorem dX5_tellSeam_29 : decode cX5_tellSeam 29 = .ok (.invokevirtual 145, 3) := by decide +kernel
theorem dX5_tellSeam_32 : decode cX5_tellSeam 32 = .ok (.aload_n 0, 1) := by decide +kernel
theorem dX5_tellSeam_33 : decode cX5_tellSeam 33 = .ok (.iconst 4, 1) := by decide +kernel
theorem dX5_tellSeam_34 : decode cX5_tellSeam 34 = .ok (.invokevirtual 133, 3) := by decide +kernel
theorem dX5_tellSeam_37 : decode cX5_tellSeam 37 = .ok (.aload_n 0, 1) := by decide +kernel
theorem dX5_tellSeam_38 : decode cX5_tellSeam 38 = .ok (.iconst 1, 1) := by decide +kernel
theorem dX5_tellSeam_39 : decode cX5_tellSeam 39 = .ok (.bipush 99, 2) := by decide +kernel
theorem dX5_tellSeam_41 : decode cX5_tellSeam 41 = .ok (.invokevirtual 130, 3) := by decide +kernel
theorem dX5_tellSeam_44 : decode cX5_tellSeam 44 = .ok (.istore_n 2, 1) := by decide +kernel
theorem dX5_tellSeam_45 : decode cX5_tellSeam 45 = .ok (.aload_n 0, 1) := by decide +kernel
theorem dX5_tellSeam_46 : decode cX5_tellSeam 46 = .ok (.iconst 5, 1) := by decide +kernel
theorem dX5_tellSeam_47 : decode cX5_tellSeam 47 = .ok (.invokevirtual 80, 3) := by decide +kernel
theorem dX5_tellSeam_50 : decode cX5_tellSeam 50 = .ok (.ifCond .eq 7, 3) := by decide +kernel
theorem dX5_tellSeam_53 : decode cX5_tellSeam 53 = .ok (.iconst 1, 1) := by decide +kernel
theorem dX5_tellSeam_54 : decode cX5_tellSeam 54 = .ok (.goto 4, 3) := by decide +kernel
theorem dX5_tellSeam_57 : decode cX5_tellSeam 57 = .ok (.iconst 0, 1) := by decide +kernel
theorem dX5_tellSeam_58 : decode cX5_tellSeam 58 = .ok (.istore_n 3, 1) := by decide +kernel
theorem dX5_tellSeam_59 : decode cX5_tellSeam 59 = .ok (.iload_n 3, 1) := by decide +kernel
theorem dX5_tellSeam_60 : decode cX5_tellSeam 60 = .ok (.iconst 1, 1) := by decide +kernel
theorem dX5_tellSeam_61 : decode cX5_tellSeam 61 = .ok (.if_icmp .ne 7, 3) := by decide +kernel
theorem dX5_tellSeam_64 : decode cX5_tellSeam 64 = .ok (.aload_n 0, 1) := by decide +kernel
theorem dX5_tellSeam_65 : decode cX5_tellSeam 65 = .ok (.invokevirtual 54, 3) := by decide +kernel
theorem dX5_tellSeam_68 : decode cX5_tellSeam 68 = .ok (.aload_n 0, 1) := by decide +kernel
theorem dX5_tellSeam_69 : decode cX5_tellSeam 69 = .ok (.bipush 6, 2) := by decide +kernel
theorem dX5_tellSeam_71 : decode cX5_tellSeam 71 = .ok (.invokevirtual 80, 3) := by decide +kernel
theorem dX5_tellSeam_74 : decode cX5_tellSeam 74 = .ok (.ifCond .eq 12, 3) := by decide +kernel
theorem dX5_tellSeam_77 : decode cX5_tellSeam 77 = .ok (.aload_n 0, 1) := by decide +kernel
theorem dX5_tellSeam_78 : decode cX5_tellSeam 78 = .ok (.aload_n 1, 1) := by decide +kernel
theorem dX5_tellSeam_79 : decode cX5_tellSeam 79 = .ok (.iload_n 2, 1) := by decide +kernel
theorem dX5_tellSeam_80 : decode cX5_tellSeam 80 = .ok (.invokevirtual 148, 3) := by decide +kernel
theorem dX5_tellSeam_83 : decode cX5_tellSeam 83 = .ok (.goto 4, 3) := by decide +kernel
theorem dX5_tellSeam_86 : decode cX5_tellSeam 86 = .ok (.iconst 0, 1) := by decide +kernel
theorem dX5_tellSeam_87 : decode cX5_tellSeam 87 = .ok (.istore 4, 2) := by decide +kernel
theorem dX5_tellSeam_89 : decode cX5_tellSeam 89 = .ok (.aload_n 1, 1) := by decide +kernel
theorem dX5_tellSeam_90 : decode cX5_tellSeam 90 = .ok (.iload_n 2, 1) := by decide +kernel
theorem dX5_tellSeam_91 : decode cX5_tellSeam 91 = .ok (.iload_n 3, 1) := by decide +kernel
theorem dX5_tellSeam_92 : decode cX5_tellSeam 92 = .ok (.iload 4, 2) := by decide +kernel
theorem dX5_tellSeam_94 : decode cX5_tellSeam 94 = .ok (.invokevirtual 152, 3) := by decide +kernel
theorem dX5_tellSeam_97 : decode cX5_tellSeam 97 = .ok (.return_, 1) := by decide +kernel
theorem dX5_tellPlaces_0 : decode cX5_tellPlaces 0 = .ok (.aload_n 0, 1) := by decide +kernel
theorem dX5_tellPlaces_1 : decode cX5_tellPlaces 1 = .ok (.invokevirtual 54, 3) := by decide +kernel
theorem dX5_tellPlaces_4 : decode cX5_tellPlaces 4 = .ok (.iconst 0, 1) := by decide +kernel
theorem dX5_tellPlaces_5 : decode cX5_tellPlaces 5 = .ok (.istore_n 3, 1) := by decide +kernel
theorem dX5_tellPlaces_6 : decode cX5_tellPlaces 6 = .ok (.iconst 0, 1) := by decide +kernel
theorem dX5_tellPlaces_7 : decode cX5_tellPlaces 7 = .ok (.istore 4, 2) := by decide +kernel
theorem dX5_tellPlaces_9 : decode cX5_tellPlaces 9 = .ok (.iconst 0, 1) := by decide +kernel
theorem dX5_tellPlaces_10 : decode cX5_tellPlaces 10 = .ok (.istore 5, 2) := by decide +kernel
theorem dX5_tellPlaces_12 : decode cX5_tellPlaces 12 = .ok (.iload 5, 2) := by decide +kernel
theorem dX5_tellPlaces_14 : decode cX5_tellPlaces 14 = .ok (.iconst 4, 1) := by decide +kernel
theorem dX5_tellPlaces_15 : decode cX5_tellPlaces 15 = .ok (.if_icmp .ge 56, 3) := by decide +kernel
theorem dX5_tellPlaces_18 : decode cX5_tellPlaces 18 = .ok (.iload 5, 2) := by decide +kernel
theorem dX5_tellPlaces_20 : decode cX5_tellPlaces 20 = .ok (.ifCond .eq 13, 3) := by decide +kernel
theorem dX5_tellPlaces_23 : decode cX5_tellPlaces 23 = .ok (.aload_n 0, 1) := by decide +kernel
theorem dX5_tellPlaces_24 : decode cX5_tellPlaces 24 = .ok (.getfield 41, 3) := by decide +kernel
theorem dX5_tellPlaces_27 : decode cX5_tellPlaces 27 = .ok (.sipush 257, 3) := by decide +kernel
theorem dX5_tellPlaces_30 : decode cX5_tellPlaces 30 = .ok (.if_icmp .ne 41, 3) := by decide +kernel
theorem dX5_tellPlaces_33 : decode cX5_tellPlaces 33 = .ok (.aload_n 0, 1) := by decide +kernel
theorem dX5_tellPlaces_34 : decode cX5_tellPlaces 34 = .ok (.iload 4, 2) := by decide +kernel
theorem dX5_tellPlaces_36 : decode cX5_tellPlaces 36 = .ok (.iconst 1, 1) := by decide +kernel
theorem dX5_tellPlaces_37 : decode cX5_tellPlaces 37 = .ok (.iadd, 1) := by decide +kernel
theorem dX5_tellPlaces_38 : decode cX5_tellPlaces 38 = .ok (.iload_n 2, 1) := by decide +kernel
theorem dX5_tellPlaces_39 : decode cX5_tellPlaces 39 = .ok (.iconst 1, 1) := by decide +kernel
theorem dX5_tellPlaces_40 : decode cX5_tellPlaces 40 = .ok (.isub, 1) := by decide +kernel
theorem dX5_tellPlaces_41 : decode cX5_tellPlaces 41 = .ok (.invokevirtual 130, 3) := by decide +kernel
theorem dX5_tellPlaces_44 : decode cX5_tellPlaces 44 = .ok (.istore 4, 2) := by decide +kernel
theorem dX5_tellPlaces_46 : decode cX5_tellPlaces 46 = .ok (.aload_n 1, 1) := by decide +kernel
theorem dX5_tellPlaces_47 : decode cX5_tellPlaces 47 = .ok (.getfield 156, 3) := by decide +kernel
theorem dX5_tellPlaces_50 : decode cX5_tellPlaces 50 = .ok (.aload_n 1, 1) := by decide +kernel
theorem dX5_tellPlaces_51 : decode cX5_tellPlaces 51 = .ok (.getfield 142, 3) := by decide +kernel
theorem dX5_tellPlaces_54 : decode cX5_tellPlaces 54 = .ok (.iconst 4, 1) := by decide +kernel
theorem dX5_tellPlaces_55 : decode cX5_tellPlaces 55 = .ok (.imul, 1) := by decide +kernel
theorem dX5_tellPlaces_56 : decode cX5_tellPlaces 56 = .ok (.iload 5, 2) := by decide +kernel
theorem dX5_tellPlaces_58 : decode cX5_tellPlaces 58 = .ok (.iadd, 1) := by decide +kernel
theorem dX5_tellPlaces_59 : decode cX5_tellPlaces 59 = .ok (.iload 4, 2) := by decide +kernel
theorem dX5_tellPlaces_61 : decode cX5_tellPlaces 61 = .ok (.iastore, 1) := by decide +kernel
theorem dX5_tellPlaces_62 : decode cX5_tellPlaces 62 = .ok (.iinc 3 1, 3) := by decide +kernel
theorem dX5_tellPlaces_65 : decode cX5_tellPlaces 65 = .ok (.iinc 5 1, 3) := by decide +kernel
theorem dX5_tellPlaces_68 : decode cX5_tellPlaces 68 = .ok (.goto (-56), 3) := by decide +kernel
theorem dX5_tellPlaces_71 : decode cX5_tellPlaces 71 = .ok (.aload_n 0, 1) := by decide +kernel
theorem dX5_tellPlaces_72 : decode cX5_tellPlaces 72 = .ok (.getfield 41, 3) := by decide +kernel
theorem dX5_tellPlaces_75 : decode cX5_tellPlaces 75 = .ok (.sipush 257, 3) := by decide +kernel
theorem dX5_tellPlaces_78 : decode cX5_tellPlaces 78 = .ok (.if_icmp .ne 12, 3) := by decide +kernel
theorem dX5_tellPlaces_81 : decode cX5_tellPlaces 81 = .ok (.aload_n 0, 1) := by decide +kernel
theorem dX5_tellPlaces_82 : decode cX5_tellPlaces 82 = .ok (.iconst 5, 1) := by decide +kernel
theorem dX5_tellPlaces_83 : decode cX5_tellPlaces 83 = .ok (.aload_n 0, 1) := by decide +kernel
theorem dX5_tellPlaces_84 : decode cX5_tellPlaces 84 = .ok (.getfield 57, 3) := by decide +kernel
theorem dX5_tellPlaces_87 : decode cX5_tellPlaces 87 = .ok (.invokevirtual 84, 3) := by decide +kernel
theorem dX5_tellPlaces_90 : decode cX5_tellPlaces 90 = .ok (.iload_n 3, 1) := by decide +kernel
theorem dX5_tellPlaces_91 : decode cX5_tellPlaces 91 = .ok (.ireturn, 1) := by decide +kernel
theorem dX5_tellRule_0 : decode cX5_tellRule 0 = .ok (.aload_n 1, 1) := by decide +kernel
theorem dX5_tellRule_1 : decode cX5_tellRule 1 = .ok (.getfield 159, 3) := by decide +kernel
theorem dX5_tellRule_4 : decode cX5_tellRule 4 = .ok (.iconst 4, 1) := by decide +kernel
theorem dX5_tellRule_5 : decode cX5_tellRule 5 = .ok (.if_icmp .lt 13, 3) := by decide +kernel
theorem dX5_tellRule_8 : decode cX5_tellRule 8 = .ok (.aload_n 0, 1) := by decide +kernel
theorem dX5_tellRule_9 : decode cX5_tellRule 9 = .ok (.iconst 5, 1) := by decide +kernel
theorem dX5_tellRule_10 : decode cX5_tellRule 10 = .ok (.aload_n 0, 1) := by decide +kernel
theorem dX5_tellRule_11 : decode cX5_tellRule 11 = .ok (.getfield 57, 3) := by decide +kernel
theorem dX5_tellRule_14 : decode cX5_tellRule 14 = .ok (.invokevirtual 84, 3) := by decide +kernel
theorem dX5_tellRule_17 : decode cX5_tellRule 17 = .ok (.return_, 1) := by decide +kernel
theorem dX5_tellRule_18 : decode cX5_tellRule 18 = .ok (.aload_n 0, 1) := by decide +kernel
theorem dX5_tellRule_19 : decode cX5_tellRule 19 = .ok (.invokevirtual 54, 3) := by decide +kernel
theorem dX5_tellRule_22 : decode cX5_tellRule 22 = .ok (.aload_n 0, 1) := by decide +kernel
theorem dX5_tellRule_23 : decode cX5_tellRule 23 = .ok (.aload_n 1, 1) := by decide +kernel
theorem dX5_tellRule_24 : decode cX5_tellRule 24 = .ok (.bipush 10, 2) := by decide +kernel
theorem dX5_tellRule_26 : decode cX5_tellRule 26 = .ok (.aload_n 1, 1) := by decide +kernel
theorem dX5_tellRule_27 : decode cX5_tellRule 27 = .ok (.getfield 159, 3) := by decide +kernel
theorem dX5_tellRule_30 : decode cX5_tellRule 30 = .ok (.iadd, 1) := by decide +kernel
theorem dX5_tellRule_31 : decode cX5_tellRule 31 = .ok (.invokevirtual 145, 3) := by decide +kernel
theorem dX5_tellRule_34 : decode cX5_tellRule 34 = .ok (.aload_n 0, 1) := by decide +kernel
theorem dX5_tellRule_35 : decode cX5_tellRule 35 = .ok (.bipush 8, 2) := by decide +kernel
theorem dX5_tellRule_37 : decode cX5_tellRule 37 = .ok (.invokevirtual 133, 3) := by decide +kernel
theorem dX5_tellRule_40 : decode cX5_tellRule 40 = .ok (.aload_n 0, 1) := by decide +kernel
theorem dX5_tellRule_41 : decode cX5_tellRule 41 = .ok (.iconst 0, 1) := by decide +kernel
theorem dX5_tellRule_42 : decode cX5_tellRule 42 = .ok (.invokevirtual 162, 3) := by decide +kernel
theorem dX5_tellRule_45 : decode cX5_tellRule 45 = .ok (.aload_n 1, 1) := by decide +kernel
theorem dX5_tellRule_46 : decode cX5_tellRule 46 = .ok (.invokevirtual 165, 3) := by decide +kernel
theorem dX5_tellRule_49 : decode cX5_tellRule 49 = .ok (.return_, 1) := by decide +kernel
theorem dX5_name_0 : decode cX5_name 0 = .ok (.aload_n 0, 1) := by decide +kernel
theorem dX5_name_1 : decode cX5_name 1 = .ok (.getfield 41, 3) := by decide +kernel
theorem dX5_name_4 : decode cX5_name 4 = .ok (.sipush 256, 3) := by decide +kernel
theorem dX5_name_7 : decode cX5_name 7 = .ok (.if_icmp .ne 19, 3) := by decide +kernel
theorem dX5_name_10 : decode cX5_name 10 = .ok (.aload_n 0, 1) := by decide +kernel
theorem dX5_name_11 : decode cX5_name 11 = .ok (.getfield 60, 3) := by decide +kernel
theorem dX5_name_14 : decode cX5_name 14 = .ok (.ifCond .lt 22, 3) := by decide +kernel
theorem dX5_name_17 : decode cX5_name 17 = .ok (.aload_n 0, 1) := by decide +kernel
theorem dX5_name_18 : decode cX5_name 18 = .ok (.getfield 60, 3) := by decide +kernel
theorem dX5_name_21 : decode cX5_name 21 = .ok (.bipush 30, 2) := by decide +kernel
theorem dX5_name_23 : decode cX5_name 23 = .ok (.if_icmp .ge 13, 3) := by decide +kernel
theorem dX5_name_26 : decode cX5_name 26 = .ok (.aload_n 0, 1) := by decide +kernel
theorem dX5_name_27 : decode cX5_name 27 = .ok (.iconst 1, 1) := by decide +kernel
theorem dX5_name_28 : decode cX5_name 28 = .ok (.aload_n 0, 1) := by decide +kernel
theorem dX5_name_29 : decode cX5_name 29 = .ok (.getfield 57, 3) := by decide +kernel
theorem dX5_name_32 : decode cX5_name 32 = .ok (.invokevirtual 84, 3) := by decide +kernel
theorem dX5_name_35 : decode cX5_name 35 = .ok (.return_, 1) := by decide +kernel
theorem dX5_name_36 : decode cX5_name 36 = .ok (.aload_n 0, 1) := by decide +kernel
theorem dX5_name_37 : decode cX5_name 37 = .ok (.getfield 38, 3) := by decide +kernel
theorem dX5_name_40 : decode cX5_name 40 = .ok (.aload_n 0, 1) := by decide +kernel
theorem dX5_name_41 : decode cX5_name 41 = .ok (.getfield 57, 3) := by decide +kernel
theorem dX5_name_44 : decode cX5_name 44 = .ok (.isub, 1) := by decide +kernel
theorem dX5_name_45 : decode cX5_name 45 = .ok (.bipush 6, 2) := by decide +kernel
theorem dX5_name_47 : decode cX5_name 47 = .ok (.if_icmp .le 16, 3) := by decide +kernel
theorem dX5_name_50 : decode cX5_name 50 = .ok (.aload_n 0, 1) := by decide +kernel
theorem dX5_name_51 : decode cX5_name 51 = .ok (.iconst 1, 1) := by decide +kernel
theorem dX5_name_52 : decode cX5_name 52 = .ok (.aload_n 0, 1) := by decide +kernel
theorem dX5_name_53 : decode cX5_name 53 = .ok (.getfield 57, 3) := by decide +kernel
theorem dX5_name_56 : decode cX5_name 56 = .ok (.bipush 6, 2) := by decide +kernel
theorem dX5_name_58 : decode cX5_name 58 = .ok (.iadd, 1) := by decide +kernel
theorem dX5_name_59 : decode cX5_name 59 = .ok (.invokevirtual 84, 3) := by decide +kernel
theorem dX5_name_62 : decode cX5_name 62 = .ok (.return_, 1) := by decide +kernel
theorem dX5_name_63 : decode cX5_name 63 = .ok (.iconst 0, 1) := by decide +kernel
theorem dX5_name_64 : decode cX5_name 64 = .ok (.istore_n 3, 1) := by decide +kernel
theorem dX5_name_65 : decode cX5_name 65 = .ok (.iload_n 3, 1) := by decide +kernel
theorem dX5_name_66 : decode cX5_name 66 = .ok (.bipush 6, 2) := by decide +kernel
theorem dX5_name_68 : decode cX5_name 68 = .ok (.if_icmp .ge 53, 3) := by decide +kernel
theorem dX5_name_71 : decode cX5_name 71 = .ok (.aload_n 1, 1) := by decide +kernel
theorem dX5_name_72 : decode cX5_name 72 = .ok (.getfield 168, 3) := by decide +kernel
theorem dX5_name_75 : decode cX5_name 75 = .ok (.iload_n 2, 1) := by decide +kernel
theorem dX5_name_76 : decode cX5_name 76 = .ok (.bipush 6, 2) := by decide +kernel
theorem dX5_name_78 : decode cX5_name 78 = .ok (.imul, 1) := by decide +kernel
theorem dX5_name_79 : decode cX5_name 79 = .ok (.iload_n 3, 1) := by decide +kernel
theorem dX5_name_80 : decode cX5_name 80 = .ok (.iadd, 1) := by decide +kernel
theorem dX5_name_81 : decode cX5_name 81 = .ok (.aload_n 0, 1) := by decide +kernel
theorem dX5_name_82 : decode cX5_name 82 = .ok (.getfield 57, 3) := by decide +kernel
theorem dX5_name_85 : decode cX5_name 85 = .ok (.iload_n 3, 1) := by decide +kernel
theorem dX5_name_86 : decode cX5_name 86 = .ok (.iadd, 1) := by decide +kernel
theorem dX5_name_87 : decode cX5_name 87 = .ok (.aload_n 0, 1) := by decide +kernel
theorem dX5_name_88 : decode cX5_name 88 = .ok (.getfield 38, 3) := by decide +kernel
theorem dX5_name_91 : decode cX5_name 91 = .ok (.if_icmp .ge 22, 3) := by decide +kernel
theorem dX5_name_94 : decode cX5_name 94 = .ok (.aload_n 0, 1) := by decide +kernel
theorem dX5_name_95 : decode cX5_name 95 = .ok (.getfield 9, 3) := by decide +kernel
theorem dX5_name_98 : decode cX5_name 98 = .ok (.aload_n 0, 1) := by decide +kernel
theorem dX5_name_99 : decode cX5_name 99 = .ok (.getfield 57, 3) := by decide +kernel
theorem dX5_name_102 : decode cX5_name 102 = .ok (.iload_n 3, 1) := by decide +kernel
theorem dX5_name_103 : decode cX5_name 103 = .ok (.iadd, 1) := by decide +kernel
theorem dX5_name_104 : decode cX5_name 104 = .ok (.iaload, 1) := by decide +kernel
theorem dX5_name_105 : decode cX5_name 105 = .ok (.bipush 97, 2) := by decide +kernel
theorem dX5_name_107 : decode cX5_name 107 = .ok (.isub, 1) := by decide +kernel
theorem dX5_name_108 : decode cX5_name 108 = .ok (.iconst 1, 1) := by decide +kernel
theorem dX5_name_109 : decode cX5_name 109 = .ok (.iadd, 1) := by decide +kernel
theorem dX5_name_110 : decode cX5_name 110 = .ok (.goto 4, 3) := by decide +kernel
theorem dX5_name_113 : decode cX5_name 113 = .ok (.iconst 0, 1) := by decide +kernel
theorem dX5_name_114 : decode cX5_name 114 = .ok (.iastore, 1) := by decide +kernel
theorem dX5_name_115 : decode cX5_name 115 = .ok (.iinc 3 1, 3) := by decide +kernel
theorem dX5_name_118 : decode cX5_name 118 = .ok (.goto (-53), 3) := by decide +kernel
theorem dX5_name_121 : decode cX5_name 121 = .ok (.aload_n 1, 1) := by decide +kernel
theorem dX5_name_122 : decode cX5_name 122 = .ok (.iload_n 2, 1) := by decide +kernel
theorem dX5_name_123 : decode cX5_name 123 = .ok (.invokevirtual 171, 3) := by decide +kernel
theorem dX5_name_126 : decode cX5_name 126 = .ok (.ifCond .eq 15, 3) := by decide +kernel
theorem dX5_name_129 : decode cX5_name 129 = .ok (.aload_n 0, 1) := by decide +kernel
theorem dX5_name_130 : decode cX5_name 130 = .ok (.iconst 3, 1) := by decide +kernel
theorem dX5_name_131 : decode cX5_name 131 = .ok (.aload_n 0, 1) := by decide +kernel
theorem dX5_name_132 : decode cX5_name 132 = .ok (.getfield 57, 3) := by decide +kernel
theorem dX5_name_135 : decode cX5_name 135 = .ok (.invokevirtual 84, 3) := by decide +kernel
theorem dX5_name_138 : decode cX5_name 138 = .ok (.goto 7, 3) := by decide +kernel
theorem dX5_name_141 : decode cX5_name 141 = .ok (.aload_n 0, 1) := by decide +kernel
theorem dX5_name_142 : decode cX5_name 142 = .ok (.invokevirtual 54, 3) := by decide +kernel
theorem dX5_name_145 : decode cX5_name 145 = .ok (.return_, 1) := by decide +kernel
theorem dX5_readQuestion_0 : decode cX5_readQuestion 0 = .ok (.aload_n 0, 1) := by decide +kernel
theorem dX5_readQuestion_1 : decode cX5_readQuestion 1 = .ok (.aload_n 0, 1) := by decide +kernel
theorem dX5_readQuestion_2 : decode cX5_readQuestion 2 = .ok (.getfield 22, 3) := by decide +kernel
theorem dX5_readQuestion_5 : decode cX5_readQuestion 5 = .ok (.aload_n 1, 1) := by decide +kernel
theorem dX5_readQuestion_6 : decode cX5_readQuestion 6 = .ok (.iload_n 2, 1) := by decide +kernel
theorem dX5_readQuestion_7 : decode cX5_readQuestion 7 = .ok (.invokevirtual 96, 3) := by decide +kernel
theorem dX5_readQuestion_10 : decode cX5_readQuestion 10 = .ok (.aload_n 0, 1) := by decide +kernel
theorem dX5_readQuestion_11 : decode cX5_readQuestion 11 = .ok (.getfield 41, 3) := by decide +kernel
theorem dX5_readQuestion_14 : decode cX5_readQuestion 14 = .ok (.sipush 256, 3) := by decide +kernel
theorem dX5_readQuestion_17 : decode cX5_readQuestion 17 = .ok (.if_icmp .ne 10, 3) := by decide +kernel
theorem dX5_readQuestion_20 : decode cX5_readQuestion 20 = .ok (.aload_n 0, 1) := by decide +kernel
theorem dX5_readQuestion_21 : decode cX5_readQuestion 21 = .ok (.getfield 60, 3) := by decide +kernel
theorem dX5_readQuestion_24 : decode cX5_readQuestion 24 = .ok (.goto 4, 3) := by decide +kernel
theorem dX5_readQuestion_27 : decode cX5_readQuestion 27 = .ok (.iconst (-1), 1) := by decide +kernel
theorem dX5_readQuestion_28 : decode cX5_readQuestion 28 = .ok (.istore_n 3, 1) := by decide +kernel
theorem dX5_readQuestion_29 : decode cX5_readQuestion 29 = .ok (.iload_n 3, 1) := by decide +kernel
theorem dX5_readQuestion_30 : decode cX5_readQuestion 30 = .ok (.bipush 30, 2) := by decide +kernel
theorem dX5_readQuestion_32 : decode cX5_readQuestion 32 = .ok (.if_icmp .eq 15, 3) := by decide +kernel
theorem dX5_readQuestion_35 : decode cX5_readQuestion 35 = .ok (.iload_n 3, 1) := by decide +kernel
theorem dX5_readQuestion_36 : decode cX5_readQuestion 36 = .ok (.bipush 31, 2) := by decide +kernel
theorem dX5_readQuestion_38 : decode cX5_readQuestion 38 = .ok (.if_icmp .eq 9, 3) := by decide +kernel
theorem dX5_readQuestion_41 : decode cX5_readQuestion 41 = .ok (.iload_n 3, 1) := by decide +kernel
theorem dX5_readQuestion_42 : decode cX5_readQuestion 42 = .ok (.bipush 32, 2) := by decide +kernel
theorem dX5_readQuestion_44 : decode cX5_readQuestion 44 = .ok (.if_icmp .ne 15, 3) := by decide +kernel
theorem dX5_readQuestion_47 : decode cX5_readQuestion 47 = .ok (.aload_n 0, 1) := by decide +kernel
theorem dX5_readQuestion_48 : decode cX5_readQuestion 48 = .ok (.invokevirtual 54, 3) := by decide +kernel
theorem dX5_readQuestion_51 : decode cX5_readQuestion 51 = .ok (.aload_n 0, 1) := by decide +kernel
theorem dX5_readQuestion_52 : decode cX5_readQuestion 52 = .ok (.iconst 0, 1) := by decide +kernel
theorem dX5_readQuestion_53 : decode cX5_readQuestion 53 = .ok (.invokevirtual 162, 3) := by decide +kernel
theorem dX5_readQuestion_56 : decode cX5_readQuestion 56 = .ok (.goto 42, 3) := by decide +kernel
theorem dX5_readQuestion_59 : decode cX5_readQuestion 59 = .ok (.iload_n 3, 1) := by decide +kernel
theorem dX5_readQuestion_60 : decode cX5_readQuestion 60 = .ok (.bipush 33, 2) := by decide +kernel
theorem dX5_readQuestion_62 : decode cX5_readQuestion 62 = .ok (.if_icmp .eq 15, 3) := by decide +kernel
theorem dX5_readQuestion_65 : decode cX5_readQuestion 65 = .ok (.iload_n 3, 1) := by decide +kernel
theorem dX5_readQuestion_66 : decode cX5_readQuestion 66 = .ok (.bipush 19, 2) := by decide +kernel
theorem dX5_readQuestion_68 : decode cX5_readQuestion 68 = .ok (.if_icmp .eq 9, 3) := by decide +kernel
theorem dX5_readQuestion_71 : decode cX5_readQuestion 71 = .ok (.iload_n 3, 1) := by decide +kernel
theorem dX5_readQuestion_72 : decode cX5_readQuestion 72 = .ok (.bipush 18, 2) := by decide +kernel
theorem dX5_readQuestion_74 : decode cX5_readQuestion 74 = .ok (.if_icmp .ne 15, 3) := by decide +kernel
theorem dX5_readQuestion_77 : decode cX5_readQuestion 77 = .ok (.aload_n 0, 1) := by decide +kernel
theorem dX5_readQuestion_78 : decode cX5_readQuestion 78 = .ok (.invokevirtual 54, 3) := by decide +kernel
theorem dX5_readQuestion_81 : decode cX5_readQuestion 81 = .ok (.aload_n 0, 1) := by decide +kernel
theorem dX5_readQuestion_82 : decode cX5_readQuestion 82 = .ok (.iconst 0, 1) := by decide +kernel
theorem dX5_readQuestion_83 : decode cX5_readQuestion 83 = .ok (.invokevirtual 174, 3) := by decide +kernel
theorem dX5_readQuestion_86 : decode cX5_readQuestion 86 = .ok (.goto 12, 3) := by decide +kernel
theorem dX5_readQuestion_89 : decode cX5_readQuestion 89 = .ok (.aload_n 0, 1) := by decide +kernel
theorem dX5_readQuestion_90 : decode cX5_readQuestion 90 = .ok (.iconst 1, 1) := by decide +kernel
theorem dX5_readQuestion_91 : decode cX5_readQuestion 91 = .ok (.aload_n 0, 1) := by decide +kernel
theorem dX5_readQuestion_92 : decode cX5_readQuestion 92 = .ok (.getfield 57, 3) := by decide +kernel
theorem dX5_readQuestion_95 : decode cX5_readQuestion 95 = .ok (.invokevirtual 84, 3) := by decide +kernel
theorem dX5_readQuestion_98 : decode cX5_readQuestion 98 = .ok (.aload_n 0, 1) := by decide +kernel
theorem dX5_readQuestion_99 : decode cX5_readQuestion 99 = .ok (.getfield 41, 3) := by decide +kernel
theorem dX5_readQuestion_102 : decode cX5_readQuestion 102 = .ok (.sipush 258, 3) := by decide +kernel
theorem dX5_readQuestion_105 : decode cX5_readQuestion 105 = .ok (.if_icmp .eq 12, 3) := by decide +kernel
theorem dX5_readQuestion_108 : decode cX5_readQuestion 108 = .ok (.aload_n 0, 1) := by decide +kernel
theorem dX5_readQuestion_109 : decode cX5_readQuestion 109 = .ok (.iconst 1, 1) := by decide +kernel
theorem dX5_readQuestion_110 : decode cX5_readQuestion 110 = .ok (.aload_n 0, 1) := by decide +kernel
theorem dX5_readQuestion_111 : decode cX5_readQuestion 111 = .ok (.getfield 57, 3) := by decide +kernel
theorem dX5_readQuestion_114 : decode cX5_readQuestion 114 = .ok (.invokevirtual 84, 3) := by decide +kernel
theorem dX5_readQuestion_117 : decode cX5_readQuestion 117 = .ok (.iload_n 3, 1) := by decide +kernel
theorem dX5_readQuestion_118 : decode cX5_readQuestion 118 = .ok (.ireturn, 1) := by decide +kernel
theorem dX5_test_0 : decode cX5_test 0 = .ok (.aload_n 0, 1) := by decide +kernel
theorem dX5_test_1 : decode cX5_test 1 = .ok (.iload_n 1, 1) := by decide +kernel
theorem dX5_test_2 : decode cX5_test 2 = .ok (.invokevirtual 177, 3) := by decide +kernel
theorem dX5_test_5 : decode cX5_test 5 = .ok (.iconst 0, 1) := by decide +kernel
theorem dX5_test_6 : decode cX5_test 6 = .ok (.istore_n 2, 1) := by decide +kernel
theorem dX5_test_7 : decode cX5_test 7 = .ok (.iload_n 2, 1) := by decide +kernel
theorem dX5_test_8 : decode cX5_test 8 = .ok (.sipush 1600, 3) := by decide +kernel
theorem dX5_test_11 : decode cX5_test 11 = .ok (.if_icmp .ge 36, 3) := by decide +kernel
theorem dX5_test_14 : decode cX5_test 14 = .ok (.aload_n 0, 1) := by decide +kernel
theorem dX5_test_15 : decode cX5_test 15 = .ok (.bipush 24, 2) := by decide +kernel
theorem dX5_test_17 : decode cX5_test 17 = .ok (.invokevirtual 80, 3) := by decide +kernel
theorem dX5_test_20 : decode cX5_test 20 = .ok (.ifCond .eq 27, 3) := by decide +kernel
theorem dX5_test_23 : decode cX5_test 23 = .ok (.aload_n 0, 1) := by decide +kernel
theorem dX5_test_24 : decode cX5_test 24 = .ok (.invokevirtual 54, 3) := by decide +kernel
theorem dX5_test_27 : decode cX5_test 27 = .ok (.aload_n 0, 1) := by decide +kernel
theorem dX5_test_28 : decode cX5_test 28 = .ok (.iload_n 1, 1) := by decide +kernel
theorem dX5_test_29 : decode cX5_test 29 = .ok (.invokevirtual 177, 3) := by decide +kernel
theorem dX5_test_32 : decode cX5_test 32 = .ok (.aload_n 0, 1) := by decide +kernel
theorem dX5_test_33 : decode cX5_test 33 = .ok (.getfield 26, 3) := by decide +kernel
theorem dX5_test_36 : decode cX5_test 36 = .ok (.bipush (-23), 2) := by decide +kernel
theorem dX5_test_38 : decode cX5_test 38 = .ok (.invokevirtual 180, 3) := by decide +kernel
theorem dX5_test_41 : decode cX5_test 41 = .ok (.iinc 2 1, 3) := by decide +kernel
theorem dX5_test_44 : decode cX5_test 44 = .ok (.goto (-37), 3) := by decide +kernel
theorem dX5_test_47 : decode cX5_test 47 = .ok (.return_, 1) := by decide +kernel
theorem dX5_both_0 : decode cX5_both 0 = .ok (.aload_n 0, 1) := by decide +kernel
theorem dX5_both_1 : decode cX5_both 1 = .ok (.iload_n 1, 1) := by decide +kernel
theorem dX5_both_2 : decode cX5_both 2 = .ok (.invokevirtual 183, 3) := by decide +kernel
theorem dX5_both_5 : decode cX5_both 5 = .ok (.iconst 0, 1) := by decide +kernel
theorem dX5_both_6 : decode cX5_both 6 = .ok (.istore_n 2, 1) := by decide +kernel
theorem dX5_both_7 : decode cX5_both 7 = .ok (.iload_n 2, 1) := by decide +kernel
theorem dX5_both_8 : decode cX5_both 8 = .ok (.sipush 1600, 3) := by decide +kernel
theorem dX5_both_11 : decode cX5_both 11 = .ok (.if_icmp .ge 36, 3) := by decide +kernel
theorem dX5_both_14 : decode cX5_both 14 = .ok (.aload_n 0, 1) := by decide +kernel
theorem dX5_both_15 : decode cX5_both 15 = .ok (.bipush 25, 2) := by decide +kernel
theorem dX5_both_17 : decode cX5_both 17 = .ok (.invokevirtual 80, 3) := by decide +kernel
theorem dX5_both_20 : decode cX5_both 20 = .ok (.ifCond .eq 27, 3) := by decide +kernel
theorem dX5_both_23 : decode cX5_both 23 = .ok (.aload_n 0, 1) := by decide +kernel
theorem dX5_both_24 : decode cX5_both 24 = .ok (.invokevirtual 54, 3) := by decide +kernel
theorem dX5_both_27 : decode cX5_both 27 = .ok (.aload_n 0, 1) := by decide +kernel
theorem dX5_both_28 : decode cX5_both 28 = .ok (.iload_n 1, 1) := by decide +kernel
theorem dX5_both_29 : decode cX5_both 29 = .ok (.invokevirtual 183, 3) := by decide +kernel
theorem dX5_both_32 : decode cX5_both 32 = .ok (.aload_n 0, 1) := by decide +kernel
theorem dX5_both_33 : decode cX5_both 33 = .ok (.getfield 26, 3) := by decide +kernel
theorem dX5_both_36 : decode cX5_both 36 = .ok (.bipush (-22), 2) := by decide +kernel
theorem dX5_both_38 : decode cX5_both 38 = .ok (.invokevirtual 180, 3) := by decide +kernel
theorem dX5_both_41 : decode cX5_both 41 = .ok (.iinc 2 1, 3) := by decide +kernel
theorem dX5_both_44 : decode cX5_both 44 = .ok (.goto (-37), 3) := by decide +kernel
theorem dX5_both_47 : decode cX5_both 47 = .ok (.return_, 1) := by decide +kernel
theorem dX5_fact_0 : decode cX5_fact 0 = .ok (.aload_n 0, 1) := by decide +kernel
theorem dX5_fact_1 : decode cX5_fact 1 = .ok (.bipush 26, 2) := by decide +kernel
theorem dX5_fact_3 : decode cX5_fact 3 = .ok (.invokevirtual 80, 3) := by decide +kernel
theorem dX5_fact_6 : decode cX5_fact 6 = .ok (.ifCond .eq 33, 3) := by decide +kernel
theorem dX5_fact_9 : decode cX5_fact 9 = .ok (.aload_n 0, 1) := by decide +kernel
theorem dX5_fact_10 : decode cX5_fact 10 = .ok (.iload_n 1, 1) := by decide +kernel
theorem dX5_fact_11 : decode cX5_fact 11 = .ok (.invokevirtual 186, 3) := by decide +kernel
theorem dX5_fact_14 : decode cX5_fact 14 = .ok (.iload_n 1, 1) := by decide +kernel
theorem dX5_fact_15 : decode cX5_fact 15 = .ok (.bipush 6, 2) := by decide +kernel
theorem dX5_fact_17 : decode cX5_fact 17 = .ok (.if_icmp .ge 172, 3) := by decide +kernel
theorem dX5_fact_20 : decode cX5_fact 20 = .ok (.aload_n 0, 1) := by decide +kernel
theorem dX5_fact_21 : decode cX5_fact 21 = .ok (.iload_n 1, 1) := by decide +kernel
theorem dX5_fact_22 : decode cX5_fact 22 = .ok (.iconst 1, 1) := by decide +kernel
theorem dX5_fact_23 : decode cX5_fact 23 = .ok (.iadd, 1) := by decide +kernel
theorem dX5_fact_24 : decode cX5_fact 24 = .ok (.invokevirtual 183, 3) := by decide +kernel
theorem dX5_fact_27 : decode cX5_fact 27 = .ok (.aload_n 0, 1) := by decide +kernel
theorem dX5_fact_28 : decode cX5_fact 28 = .ok (.getfield 26, 3) := by decide +kernel
theorem dX5_fact_31 : decode cX5_fact 31 = .ok (.bipush (-11), 2) := by decide +kernel
theorem dX5_fact_33 : decode cX5_fact 33 = .ok (.invokevirtual 180, 3) := by decide +kernel
theorem dX5_fact_36 : decode cX5_fact 36 = .ok (.goto 153, 3) := by decide +kernel
theorem dX5_fact_39 : decode cX5_fact 39 = .ok (.aload_n 0, 1) := by decide +kernel
theorem dX5_fact_40 : decode cX5_fact 40 = .ok (.getfield 41, 3) := by decide +kernel
theorem dX5_fact_43 : decode cX5_fact 43 = .ok (.bipush 91, 2) := by decide +kernel
theorem dX5_fact_45 : decode cX5_fact 45 = .ok (.if_icmp .ne 30, 3) := by decide +kernel
theorem dX5_fact_48 : decode cX5_fact 48 = .ok (.aload_n 0, 1) := by decide +kernel
theorem dX5_fact_49 : decode cX5_fact 49 = .ok (.iload_n 1, 1) := by decide +kernel
theorem dX5_fact_50 : decode cX5_fact 50 = .ok (.invokevirtual 186, 3) := by decide +kernel
theorem dX5_fact_53 : decode cX5_fact 53 = .ok (.iload_n 1, 1) := by decide +kernel
theorem dX5_fact_54 : decode cX5_fact 54 = .ok (.bipush 6, 2) := by decide +kernel
theorem dX5_fact_56 : decode cX5_fact 56 = .ok (.if_icmp .ge 133, 3) := by decide +kernel
theorem dX5_fact_59 : decode cX5_fact 59 = .ok (.aload_n 0, 1) := by decide +kernel
theorem dX5_fact_60 : decode cX5_fact 60 = .ok (.iload_n 1, 1) := by decide +kernel
theorem dX5_fact_61 : decode cX5_fact 61 = .ok (.iconst 1, 1) := by decide +kernel
theorem dX5_fact_62 : decode cX5_fact 62 = .ok (.iadd, 1) := by decide +kernel
theorem dX5_fact_63 : decode cX5_fact 63 = .ok (.invokevirtual 162, 3) := by decide +kernel
theorem dX5_fact_66 : decode cX5_fact 66 = .ok (.aload_n 0, 1) := by decide +kernel
theorem dX5_fact_67 : decode cX5_fact 67 = .ok (.bipush 93, 2) := by decide +kernel
theorem dX5_fact_69 : decode cX5_fact 69 = .ok (.invokevirtual 114, 3) := by decide +kernel
theorem dX5_fact_72 : decode cX5_fact 72 = .ok (.goto 117, 3) := by decide +kernel
theorem dX5_fact_75 : decode cX5_fact 75 = .ok (.aload_n 0, 1) := by decide +kernel
theorem dX5_fact_76 : decode cX5_fact 76 = .ok (.bipush 27, 2) := by decide +kernel
theorem dX5_fact_78 : decode cX5_fact 78 = .ok (.invokevirtual 80, 3) := by decide +kernel
theorem dX5_fact_81 : decode cX5_fact 81 = .ok (.ifCond .eq 18, 3) := by decide +kernel
theorem dX5_fact_84 : decode cX5_fact 84 = .ok (.aload_n 0, 1) := by decide +kernel
theorem dX5_fact_85 : decode cX5_fact 85 = .ok (.invokevirtual 54, 3) := by decide +kernel
theorem dX5_fact_88 : decode cX5_fact 88 = .ok (.aload_n 0, 1) := by decide +kernel
theorem dX5_fact_89 : decode cX5_fact 89 = .ok (.getfield 26, 3) := by decide +kernel
theorem dX5_fact_92 : decode cX5_fact 92 = .ok (.iconst 1, 1) := by decide +kernel
theorem dX5_fact_93 : decode cX5_fact 93 = .ok (.invokevirtual 180, 3) := by decide +kernel
theorem dX5_fact_96 : decode cX5_fact 96 = .ok (.goto 93, 3) := by decide +kernel
theorem dX5_fact_99 : decode cX5_fact 99 = .ok (.aload_n 0, 1) := by decide +kernel
theorem dX5_fact_100 : decode cX5_fact 100 = .ok (.iload_n 1, 1) := by decide +kernel
theorem dX5_fact_101 : decode cX5_fact 101 = .ok (.invokevirtual 174, 3) := by decide +kernel
theorem dX5_fact_104 : decode cX5_fact 104 = .ok (.aload_n 0, 1) := by decide +kernel
theorem dX5_fact_105 : decode cX5_fact 105 = .ok (.getfield 41, 3) := by decide +kernel
theorem dX5_fact_108 : decode cX5_fact 108 = .ok (.bipush 60, 2) := by decide +kernel
theorem dX5_fact_110 : decode cX5_fact 110 = .ok (.if_icmp .ne 8, 3) := by decide +kernel
theorem dX5_fact_113 : decode cX5_fact 113 = .ok (.bipush (-19), 2) := by decide +kernel
theorem dX5_fact_115 : decode cX5_fact 115 = .ok (.goto 19, 3) := by decide +kernel
theorem dX5_fact_118 : decode cX5_fact 118 = .ok (.aload_n 0, 1) := by decide +kernel
theorem dX5_fact_119 : decode cX5_fact 119 = .ok (.getfield 41, 3) := by decide +kernel
theorem dX5_fact_122 : decode cX5_fact 122 = .ok (.bipush 62, 2) := by decide +kernel
theorem dX5_fact_124 : decode cX5_fact 124 = .ok (.if_icmp .ne 8, 3) := by decide +kernel
theorem dX5_fact_127 : decode cX5_fact 127 = .ok (.bipush (-20), 2) := by decide +kernel
theorem dX5_fact_129 : decode cX5_fact 129 = .ok (.goto 5, 3) := by decide +kernel
theorem dX5_fact_132 : decode cX5_fact 132 = .ok (.bipush (-21), 2) := by decide +kernel
theorem dX5_fact_134 : decode cX5_fact 134 = .ok (.istore_n 2, 1) := by decide +kernel
theorem dX5_fact_135 : decode cX5_fact 135 = .ok (.aload_n 0, 1) := by decide +kernel
theorem dX5_fact_136 : decode cX5_fact 136 = .ok (.getfield 41, 3) := by decide +kernel
theorem dX5_fact_139 : decode cX5_fact 139 = .ok (.bipush 60, 2) := by decide +kernel
theorem dX5_fact_141 : decode cX5_fact 141 = .ok (.if_icmp .eq 31, 3) := by decide +kernel
theorem dX5_fact_144 : decode cX5_fact 144 = .ok (.aload_n 0, 1) := by decide +kernel
theorem dX5_fact_145 : decode cX5_fact 145 = .ok (.getfield 41, 3) := by decide +kernel
theorem dX5_fact_148 : decode cX5_fact 148 = .ok (.bipush 62, 2) := by decide +kernel
theorem dX5_fact_150 : decode cX5_fact 150 = .ok (.if_icmp .eq 22, 3) := by decide +kernel
theorem dX5_fact_153 : decode cX5_fact 153 = .ok (.aload_n 0, 1) := by decide +kernel
theorem dX5_fact_154 : decode cX5_fact 154 = .ok (.getfield 41, 3) := by decide +kernel
theorem dX5_fact_157 : decode cX5_fact 157 = .ok (.bipush 61, 2) := by decide +kernel
theorem dX5_fact_159 : decode cX5_fact 159 = .ok (.if_icmp .eq 13, 3) := by decide +kernel
theorem dX5_fact_162 : decode cX5_fact 162 = .ok (.aload_n 0, 1) := by decide +kernel
theorem dX5_fact_163 : decode cX5_fact 163 = .ok (.iconst 1, 1) := by decide +kernel
theorem dX5_fact_164 : decode cX5_fact 164 = .ok (.aload_n 0, 1) := by decide +kernel
theorem dX5_fact_165 : decode cX5_fact 165 = .ok (.getfield 57, 3) := by decide +kernel
theorem dX5_fact_168 : decode cX5_fact 168 = .ok (.invokevirtual 84, 3) := by decide +kernel
theorem dX5_fact_171 : decode cX5_fact 171 = .ok (.return_, 1) := by decide +kernel
theorem dX5_fact_172 : decode cX5_fact 172 = .ok (.aload_n 0, 1) := by decide +kernel
theorem dX5_fact_173 : decode cX5_fact 173 = .ok (.invokevirtual 54, 3) := by decide +kernel
theorem dX5_fact_176 : decode cX5_fact 176 = .ok (.aload_n 0, 1) := by decide +kernel
theorem dX5_fact_177 : decode cX5_fact 177 = .ok (.iload_n 1, 1) := by decide +kernel
theorem dX5_fact_178 : decode cX5_fact 178 = .ok (.invokevirtual 174, 3) := by decide +kernel
theorem dX5_fact_181 : decode cX5_fact 181 = .ok (.aload_n 0, 1) := by decide +kernel
theorem dX5_fact_182 : decode cX5_fact 182 = .ok (.getfield 26, 3) := by decide +kernel
theorem dX5_fact_185 : decode cX5_fact 185 = .ok (.iload_n 2, 1) := by decide +kernel
theorem dX5_fact_186 : decode cX5_fact 186 = .ok (.invokevirtual 180, 3) := by decide +kernel
theorem dX5_fact_189 : decode cX5_fact 189 = .ok (.return_, 1) := by decide +kernel
theorem dX5_enter_0 : decode cX5_enter 0 = .ok (.iload_n 1, 1) := by decide +kernel
theorem dX5_enter_1 : decode cX5_enter 1 = .ok (.bipush 6, 2) := by decide +kernel
theorem dX5_enter_3 : decode cX5_enter 3 = .ok (.if_icmp .ge 10, 3) := by decide +kernel
theorem dX5_enter_6 : decode cX5_enter 6 = .ok (.aload_n 0, 1) := by decide +kernel
theorem dX5_enter_7 : decode cX5_enter 7 = .ok (.invokevirtual 54, 3) := by decide +kernel
theorem dX5_enter_10 : decode cX5_enter 10 = .ok (.goto 12, 3) := by decide +kernel
theorem dX5_enter_13 : decode cX5_enter 13 = .ok (.aload_n 0, 1) := by decide +kernel
theorem dX5_enter_14 : decode cX5_enter 14 = .ok (.iconst 4, 1) := by decide +kernel
theorem dX5_enter_15 : decode cX5_enter 15 = .ok (.aload_n 0, 1) := by decide +kernel
theorem dX5_enter_16 : decode cX5_enter 16 = .ok (.getfield 57, 3) := by decide +kernel
theorem dX5_enter_19 : decode cX5_enter 19 = .ok (.invokevirtual 84, 3) := by decide +kernel
theorem dX5_enter_22 : decode cX5_enter 22 = .ok (.return_, 1) := by decide +kernel
theorem dX5_sum_0 : decode cX5_sum 0 = .ok (.aload_n 0, 1) := by decide +kernel
theorem dX5_sum_1 : decode cX5_sum 1 = .ok (.iload_n 1, 1) := by decide +kernel
theorem dX5_sum_2 : decode cX5_sum 2 = .ok (.invokevirtual 189, 3) := by decide +kernel
theorem dX5_sum_5 : decode cX5_sum 5 = .ok (.iconst 0, 1) := by decide +kernel
theorem dX5_sum_6 : decode cX5_sum 6 = .ok (.istore_n 2, 1) := by decide +kernel
theorem dX5_sum_7 : decode cX5_sum 7 = .ok (.iload_n 2, 1) := by decide +kernel
theorem dX5_sum_8 : decode cX5_sum 8 = .ok (.sipush 1600, 3) := by decide +kernel
theorem dX5_sum_11 : decode cX5_sum 11 = .ok (.if_icmp .ge 61, 3) := by decide +kernel
theorem dX5_sum_14 : decode cX5_sum 14 = .ok (.aload_n 0, 1) := by decide +kernel
theorem dX5_sum_15 : decode cX5_sum 15 = .ok (.getfield 41, 3) := by decide +kernel
theorem dX5_sum_18 : decode cX5_sum 18 = .ok (.bipush 43, 2) := by decide +kernel
theorem dX5_sum_20 : decode cX5_sum 20 = .ok (.if_icmp .eq 12, 3) := by decide +kernel
theorem dX5_sum_23 : decode cX5_sum 23 = .ok (.aload_n 0, 1) := by decide +kernel
theorem dX5_sum_24 : decode cX5_sum 24 = .ok (.getfield 41, 3) := by decide +kernel
theorem dX5_sum_27 : decode cX5_sum 27 = .ok (.bipush 45, 2) := by decide +kernel
theorem dX5_sum_29 : decode cX5_sum 29 = .ok (.if_icmp .ne 43, 3) := by decide +kernel
theorem dX5_sum_32 : decode cX5_sum 32 = .ok (.aload_n 0, 1) := by decide +kernel
theorem dX5_sum_33 : decode cX5_sum 33 = .ok (.getfield 41, 3) := by decide +kernel
theorem dX5_sum_36 : decode cX5_sum 36 = .ok (.bipush 43, 2) := by decide +kernel
theorem dX5_sum_38 : decode cX5_sum 38 = .ok (.if_icmp .ne 8, 3) := by decide +kernel
theorem dX5_sum_41 : decode cX5_sum 41 = .ok (.bipush (-13), 2) := by decide +kernel
theorem dX5_sum_43 : decode cX5_sum 43 = .ok (.goto 5, 3) := by decide +kernel
theorem dX5_sum_46 : decode cX5_sum 46 = .ok (.bipush (-14), 2) := by decide +kernel
theorem dX5_sum_48 : decode cX5_sum 48 = .ok (.istore_n 3, 1) := by decide +kernel
theorem dX5_sum_49 : decode cX5_sum 49 = .ok (.aload_n 0, 1) := by decide +kernel
theorem dX5_sum_50 : decode cX5_sum 50 = .ok (.invokevirtual 54, 3) := by decide +kernel
theorem dX5_sum_53 : decode cX5_sum 53 = .ok (.aload_n 0, 1) := by decide +kernel
theorem dX5_sum_54 : decode cX5_sum 54 = .ok (.iload_n 1, 1) := by decide +kernel
theorem dX5_sum_55 : decode cX5_sum 55 = .ok (.invokevirtual 189, 3) := by decide +kernel
theorem dX5_sum_58 : decode cX5_sum 58 = .ok (.aload_n 0, 1) := by decide +kernel
theorem dX5_sum_59 : decode cX5_sum 59 = .ok (.getfield 26, 3) := by decide +kernel
theorem dX5_sum_62 : decode cX5_sum 62 = .ok (.iload_n 3, 1) := by decide +kernel
theorem dX5_sum_63 : decode cX5_sum 63 = .ok (.invokevirtual 180, 3) := by decide +kernel
theorem dX5_sum_66 : decode cX5_sum 66 = .ok (.iinc 2 1, 3) := by decide +kernel
theorem dX5_sum_69 : decode cX5_sum 69 = .ok (.goto (-62), 3) := by decide +kernel
theorem dX5_sum_72 : decode cX5_sum 72 = .ok (.return_, 1) := by decide +kernel
theorem dX5_product_0 : decode cX5_product 0 = .ok (.aload_n 0, 1) := by decide +kernel
theorem dX5_product_1 : decode cX5_product 1 = .ok (.iload_n 1, 1) := by decide +kernel
theorem dX5_product_2 : decode cX5_product 2 = .ok (.invokevirtual 192, 3) := by decide +kernel
theorem dX5_product_5 : decode cX5_product 5 = .ok (.iconst 0, 1) := by decide +kernel
theorem dX5_product_6 : decode cX5_product 6 = .ok (.istore_n 2, 1) := by decide +kernel
theorem dX5_product_7 : decode cX5_product 7 = .ok (.iload_n 2, 1) := by decide +kernel
theorem dX5_product_8 : decode cX5_product 8 = .ok (.sipush 1600, 3) := by decide +kernel
theorem dX5_product_11 : decode cX5_product 11 = .ok (.if_icmp .ge 61, 3) := by decide +kernel
theorem dX5_product_14 : decode cX5_product 14 = .ok (.aload_n 0, 1) := by decide +kernel
theorem dX5_product_15 : decode cX5_product 15 = .ok (.getfield 41, 3) := by decide +kernel
theorem dX5_product_18 : decode cX5_product 18 = .ok (.bipush 42, 2) := by decide +kernel
theorem dX5_product_20 : decode cX5_product 20 = .ok (.if_icmp .eq 12, 3) := by decide +kernel
theorem dX5_product_23 : decode cX5_product 23 = .ok (.aload_n 0, 1) := by decide +kernel
theorem dX5_product_24 : decode cX5_product 24 = .ok (.getfield 41, 3) := by decide +kernel
theorem dX5_product_27 : decode cX5_product 27 = .ok (.bipush 47, 2) := by decide +kernel
theorem dX5_product_29 : decode cX5_product 29 = .ok (.if_icmp .ne 43, 3) := by decide +kernel
theorem dX5_product_32 : decode cX5_product 32 = .ok (.aload_n 0, 1) := by decide +kernel
theorem dX5_product_33 : decode cX5_product 33 = .ok (.getfield 41, 3) := by decide +kernel
theorem dX5_product_36 : decode cX5_product 36 = .ok (.bipush 42, 2) := by decide +kernel
theorem dX5_product_38 : decode cX5_product 38 = .ok (.if_icmp .ne 8, 3) := by decide +kernel
theorem dX5_product_41 : decode cX5_product 41 = .ok (.bipush (-15), 2) := by decide +kernel
theorem dX5_product_43 : decode cX5_product 43 = .ok (.goto 5, 3) := by decide +kernel
theorem dX5_product_46 : decode cX5_product 46 = .ok (.bipush (-16), 2) := by decide +kernel
theorem dX5_product_48 : decode cX5_product 48 = .ok (.istore_n 3, 1) := by decide +kernel
theorem dX5_product_49 : decode cX5_product 49 = .ok (.aload_n 0, 1) := by decide +kernel
theorem dX5_product_50 : decode cX5_product 50 = .ok (.invokevirtual 54, 3) := by decide +kernel
theorem dX5_product_53 : decode cX5_product 53 = .ok (.aload_n 0, 1) := by decide +kernel
theorem dX5_product_54 : decode cX5_product 54 = .ok (.iload_n 1, 1) := by decide +kernel
theorem dX5_product_55 : decode cX5_product 55 = .ok (.invokevirtual 192, 3) := by decide +kernel
theorem dX5_product_58 : decode cX5_product 58 = .ok (.aload_n 0, 1) := by decide +kernel
theorem dX5_product_59 : decode cX5_product 59 = .ok (.getfield 26, 3) := by decide +kernel
theorem dX5_product_62 : decode cX5_product 62 = .ok (.iload_n 3, 1) := by decide +kernel
theorem dX5_product_63 : decode cX5_product 63 = .ok (.invokevirtual 180, 3) := by decide +kernel
theorem dX5_product_66 : decode cX5_product 66 = .ok (.iinc 2 1, 3) := by decide +kernel
theorem dX5_product_69 : decode cX5_product 69 = .ok (.goto (-62), 3) := by decide +kernel
theorem dX5_product_72 : decode cX5_product 72 = .ok (.return_, 1) := by decide +kernel
theorem dX5_part_0 : decode cX5_part 0 = .ok (.aload_n 0, 1) := by decide +kernel
theorem dX5_part_1 : decode cX5_part 1 = .ok (.getfield 41, 3) := by decide +kernel
theorem dX5_part_4 : decode cX5_part 4 = .ok (.sipush 257, 3) := by decide +kernel
theorem dX5_part_7 : decode cX5_part 7 = .ok (.if_icmp .ne 20, 3) := by decide +kernel
theorem dX5_part_10 : decode cX5_part 10 = .ok (.aload_n 0, 1) := by decide +kernel
theorem dX5_part_11 : decode cX5_part 11 = .ok (.getfield 26, 3) := by decide +kernel
theorem dX5_part_14 : decode cX5_part 14 = .ok (.aload_n 0, 1) := by decide +kernel
theorem dX5_part_15 : decode cX5_part 15 = .ok (.iconst 0, 1) := by decide +kernel
theorem dX5_part_16 : decode cX5_part 16 = .ok (.ldc 195, 2) := by decide +kernel
theorem dX5_part_18 : decode cX5_part 18 = .ok (.invokevirtual 130, 3) := by decide +kernel
theorem dX5_part_21 : decode cX5_part 21 = .ok (.invokevirtual 180, 3) := by decide +kernel
theorem dX5_part_24 : decode cX5_part 24 = .ok (.goto 131, 3) := by decide +kernel
theorem dX5_part_27 : decode cX5_part 27 = .ok (.aload_n 0, 1) := by decide +kernel
theorem dX5_part_28 : decode cX5_part 28 = .ok (.getfield 41, 3) := by decide +kernel
theorem dX5_part_31 : decode cX5_part 31 = .ok (.bipush 40, 2) := by decide +kernel
theorem dX5_part_33 : decode cX5_part 33 = .ok (.if_icmp .ne 30, 3) := by decide +kernel
theorem dX5_part_36 : decode cX5_part 36 = .ok (.aload_n 0, 1) := by decide +kernel
theorem dX5_part_37 : decode cX5_part 37 = .ok (.iload_n 1, 1) := by decide +kernel
theorem dX5_part_38 : decode cX5_part 38 = .ok (.invokevirtual 186, 3) := by decide +kernel
theorem dX5_part_41 : decode cX5_part 41 = .ok (.iload_n 1, 1) := by decide +kernel
theorem dX5_part_42 : decode cX5_part 42 = .ok (.bipush 6, 2) := by decide +kernel
theorem dX5_part_44 : decode cX5_part 44 = .ok (.if_icmp .ge 111, 3) := by decide +kernel
theorem dX5_part_47 : decode cX5_part 47 = .ok (.aload_n 0, 1) := by decide +kernel
theorem dX5_part_48 : decode cX5_part 48 = .ok (.iload_n 1, 1) := by decide +kernel
theorem dX5_part_49 : decode cX5_part 49 = .ok (.iconst 1, 1) := by decide +kernel
theorem dX5_part_50 : decode cX5_part 50 = .ok (.iadd, 1) := by decide +kernel
theorem dX5_part_51 : decode cX5_part 51 = .ok (.invokevirtual 174, 3) := by decide +kernel
theorem dX5_part_54 : decode cX5_part 54 = .ok (.aload_n 0, 1) := by decide +kernel
theorem dX5_part_55 : decode cX5_part 55 = .ok (.bipush 41, 2) := by decide +kernel
theorem dX5_part_57 : decode cX5_part 57 = .ok (.invokevirtual 114, 3) := by decide +kernel
theorem dX5_part_60 : decode cX5_part 60 = .ok (.goto 95, 3) := by decide +kernel
theorem dX5_part_63 : decode cX5_part 63 = .ok (.aload_n 0, 1) := by decide +kernel
theorem dX5_part_64 : decode cX5_part 64 = .ok (.bipush 28, 2) := by decide +kernel
theorem dX5_part_66 : decode cX5_part 66 = .ok (.invokevirtual 80, 3) := by decide +kernel
theorem dX5_part_69 : decode cX5_part 69 = .ok (.ifCond .ne 12, 3) := by decide +kernel
theorem dX5_part_72 : decode cX5_part 72 = .ok (.aload_n 0, 1) := by decide +kernel
theorem dX5_part_73 : decode cX5_part 73 = .ok (.bipush 29, 2) := by decide +kernel
theorem dX5_part_75 : decode cX5_part 75 = .ok (.invokevirtual 80, 3) := by decide +kernel
theorem dX5_part_78 : decode cX5_part 78 = .ok (.ifCond .eq 27, 3) := by decide +kernel
theorem dX5_part_81 : decode cX5_part 81 = .ok (.aload_n 0, 1) := by decide +kernel
theorem dX5_part_82 : decode cX5_part 82 = .ok (.iload_n 1, 1) := by decide +kernel
theorem dX5_part_83 : decode cX5_part 83 = .ok (.aload_n 0, 1) := by decide +kernel
theorem dX5_part_84 : decode cX5_part 84 = .ok (.getfield 60, 3) := by decide +kernel
theorem dX5_part_87 : decode cX5_part 87 = .ok (.bipush 28, 2) := by decide +kernel
theorem dX5_part_89 : decode cX5_part 89 = .ok (.if_icmp .ne 8, 3) := by decide +kernel
theorem dX5_part_92 : decode cX5_part 92 = .ok (.bipush (-17), 2) := by decide +kernel
theorem dX5_part_94 : decode cX5_part 94 = .ok (.goto 5, 3) := by decide +kernel
theorem dX5_part_97 : decode cX5_part 97 = .ok (.bipush (-18), 2) := by decide +kernel
theorem dX5_part_99 : decode cX5_part 99 = .ok (.invokevirtual 196, 3) := by decide +kernel
theorem dX5_part_102 : decode cX5_part 102 = .ok (.goto 53, 3) := by decide +kernel
theorem dX5_part_105 : decode cX5_part 105 = .ok (.aload_n 0, 1) := by decide +kernel
theorem dX5_part_106 : decode cX5_part 106 = .ok (.getfield 47, 3) := by decide +kernel
theorem dX5_part_109 : decode cX5_part 109 = .ok (.ifCond .eq 42, 3) := by decide +kernel
theorem dX5_part_112 : decode cX5_part 112 = .ok (.aload_n 0, 1) := by decide +kernel
theorem dX5_part_113 : decode cX5_part 113 = .ok (.bipush 23, 2) := by decide +kernel
theorem dX5_part_115 : decode cX5_part 115 = .ok (.invokevirtual 80, 3) := by decide +kernel
theorem dX5_part_118 : decode cX5_part 118 = .ok (.ifCond .eq 33, 3) := by decide +kernel
theorem dX5_part_121 : decode cX5_part 121 = .ok (.aload_n 0, 1) := by decide +kernel
theorem dX5_part_122 : decode cX5_part 122 = .ok (.iload_n 1, 1) := by decide +kernel
theorem dX5_part_123 : decode cX5_part 123 = .ok (.invokevirtual 186, 3) := by decide +kernel
theorem dX5_part_126 : decode cX5_part 126 = .ok (.iload_n 1, 1) := by decide +kernel
theorem dX5_part_127 : decode cX5_part 127 = .ok (.bipush 6, 2) := by decide +kernel
theorem dX5_part_129 : decode cX5_part 129 = .ok (.if_icmp .ge 26, 3) := by decide +kernel
theorem dX5_part_132 : decode cX5_part 132 = .ok (.aload_n 0, 1) := by decide +kernel
theorem dX5_part_133 : decode cX5_part 133 = .ok (.iload_n 1, 1) := by decide +kernel
theorem dX5_part_134 : decode cX5_part 134 = .ok (.iconst 1, 1) := by decide +kernel
theorem dX5_part_135 : decode cX5_part 135 = .ok (.iadd, 1) := by decide +kernel
theorem dX5_part_136 : decode cX5_part 136 = .ok (.invokevirtual 192, 3) := by decide +kernel
theorem dX5_part_139 : decode cX5_part 139 = .ok (.aload_n 0, 1) := by decide +kernel
theorem dX5_part_140 : decode cX5_part 140 = .ok (.getfield 26, 3) := by decide +kernel
theorem dX5_part_143 : decode cX5_part 143 = .ok (.bipush (-12), 2) := by decide +kernel
theorem dX5_part_145 : decode cX5_part 145 = .ok (.invokevirtual 180, 3) := by decide +kernel
theorem dX5_part_148 : decode cX5_part 148 = .ok (.goto 7, 3) := by decide +kernel
theorem dX5_part_151 : decode cX5_part 151 = .ok (.aload_n 0, 1) := by decide +kernel
theorem dX5_part_152 : decode cX5_part 152 = .ok (.invokevirtual 199, 3) := by decide +kernel
theorem dX5_part_155 : decode cX5_part 155 = .ok (.return_, 1) := by decide +kernel
theorem dX5_pair_0 : decode cX5_pair 0 = .ok (.aload_n 0, 1) := by decide +kernel
theorem dX5_pair_1 : decode cX5_pair 1 = .ok (.invokevirtual 54, 3) := by decide +kernel
theorem dX5_pair_4 : decode cX5_pair 4 = .ok (.aload_n 0, 1) := by decide +kernel
theorem dX5_pair_5 : decode cX5_pair 5 = .ok (.getfield 41, 3) := by decide +kernel
theorem dX5_pair_8 : decode cX5_pair 8 = .ok (.bipush 40, 2) := by decide +kernel
theorem dX5_pair_10 : decode cX5_pair 10 = .ok (.if_icmp .eq 13, 3) := by decide +kernel
theorem dX5_pair_13 : decode cX5_pair 13 = .ok (.aload_n 0, 1) := by decide +kernel
theorem dX5_pair_14 : decode cX5_pair 14 = .ok (.iconst 1, 1) := by decide +kernel
theorem dX5_pair_15 : decode cX5_pair 15 = .ok (.aload_n 0, 1) := by decide +kernel
theorem dX5_pair_16 : decode cX5_pair 16 = .ok (.getfield 57, 3) := by decide +kernel
theorem dX5_pair_19 : decode cX5_pair 19 = .ok (.invokevirtual 84, 3) := by decide +kernel
theorem dX5_pair_22 : decode cX5_pair 22 = .ok (.return_, 1) := by decide +kernel
theorem dX5_pair_23 : decode cX5_pair 23 = .ok (.aload_n 0, 1) := by decide +kernel
theorem dX5_pair_24 : decode cX5_pair 24 = .ok (.iload_n 1, 1) := by decide +kernel
theorem dX5_pair_25 : decode cX5_pair 25 = .ok (.invokevirtual 186, 3) := by decide +kernel
theorem dX5_pair_28 : decode cX5_pair 28 = .ok (.iload_n 1, 1) := by decide +kernel
theorem dX5_pair_29 : decode cX5_pair 29 = .ok (.bipush 6, 2) := by decide +kernel
theorem dX5_pair_31 : decode cX5_pair 31 = .ok (.if_icmp .ge 37, 3) := by decide +kernel
theorem dX5_pair_34 : decode cX5_pair 34 = .ok (.aload_n 0, 1) := by decide +kernel
theorem dX5_pair_35 : decode cX5_pair 35 = .ok (.iload_n 1, 1) := by decide +kernel
theorem dX5_pair_36 : decode cX5_pair 36 = .ok (.iconst 1, 1) := by decide +kernel
theorem dX5_pair_37 : decode cX5_pair 37 = .ok (.iadd, 1) := by decide +kernel
theorem dX5_pair_38 : decode cX5_pair 38 = .ok (.invokevirtual 174, 3) := by decide +kernel
theorem dX5_pair_41 : decode cX5_pair 41 = .ok (.aload_n 0, 1) := by decide +kernel
theorem dX5_pair_42 : decode cX5_pair 42 = .ok (.bipush 44, 2) := by decide +kernel
theorem dX5_pair_44 : decode cX5_pair 44 = .ok (.invokevirtual 114, 3) := by decide +kernel
theorem dX5_pair_47 : decode cX5_pair 47 = .ok (.aload_n 0, 1) := by decide +kernel
theorem dX5_pair_48 : decode cX5_pair 48 = .ok (.iload_n 1, 1) := by decide +kernel
theorem dX5_pair_49 : decode cX5_pair 49 = .ok (.iconst 1, 1) := by decide +kernel
theorem dX5_pair_50 : decode cX5_pair 50 = .ok (.iadd, 1) := by decide +kernel
theorem dX5_pair_51 : decode cX5_pair 51 = .ok (.invokevirtual 174, 3) := by decide +kernel
theorem dX5_pair_54 : decode cX5_pair 54 = .ok (.aload_n 0, 1) := by decide +kernel
theorem dX5_pair_55 : decode cX5_pair 55 = .ok (.bipush 41, 2) := by decide +kernel
theorem dX5_pair_57 : decode cX5_pair 57 = .ok (.invokevirtual 114, 3) := by decide +kernel
theorem dX5_pair_60 : decode cX5_pair 60 = .ok (.aload_n 0, 1) := by decide +kernel
theorem dX5_pair_61 : decode cX5_pair 61 = .ok (.getfield 26, 3) := by decide +kernel
theorem dX5_pair_64 : decode cX5_pair 64 = .ok (.iload_n 2, 1) := by decide +kernel
theorem dX5_pair_65 : decode cX5_pair 65 = .ok (.invokevirtual 180, 3) := by decide +kernel
theorem dX5_pair_68 : decode cX5_pair 68 = .ok (.return_, 1) := by decide +kernel
theorem dX5_namedPart_0 : decode cX5_namedPart 0 = .ok (.aload_n 0, 1) := by decide +kernel
theorem dX5_namedPart_1 : decode cX5_namedPart 1 = .ok (.getfield 41, 3) := by decide +kernel
theorem dX5_namedPart_4 : decode cX5_namedPart 4 = .ok (.sipush 256, 3) := by decide +kernel
theorem dX5_namedPart_7 : decode cX5_namedPart 7 = .ok (.if_icmp .ne 17, 3) := by decide +kernel
theorem dX5_namedPart_10 : decode cX5_namedPart 10 = .ok (.aload_n 0, 1) := by decide +kernel
theorem dX5_namedPart_11 : decode cX5_namedPart 11 = .ok (.getfield 60, 3) := by decide +kernel
theorem dX5_namedPart_14 : decode cX5_namedPart 14 = .ok (.aload_n 0, 1) := by decide +kernel
theorem dX5_namedPart_15 : decode cX5_namedPart 15 = .ok (.getfield 47, 3) := by decide +kernel
theorem dX5_namedPart_18 : decode cX5_namedPart 18 = .ok (.invokestatic 202, 3) := by decide +kernel
theorem dX5_namedPart_21 : decode cX5_namedPart 21 = .ok (.goto 4, 3) := by decide +kernel
theorem dX5_namedPart_24 : decode cX5_namedPart 24 = .ok (.iconst 0, 1) := by decide +kernel
theorem dX5_namedPart_25 : decode cX5_namedPart 25 = .ok (.istore_n 1, 1) := by decide +kernel
theorem dX5_namedPart_26 : decode cX5_namedPart 26 = .ok (.iload_n 1, 1) := by decide +kernel
theorem dX5_namedPart_27 : decode cX5_namedPart 27 = .ok (.ifCond .ne 13, 3) := by decide +kernel
theorem dX5_namedPart_30 : decode cX5_namedPart 30 = .ok (.aload_n 0, 1) := by decide +kernel
theorem dX5_namedPart_31 : decode cX5_namedPart 31 = .ok (.iconst 1, 1) := by decide +kernel
theorem dX5_namedPart_32 : decode cX5_namedPart 32 = .ok (.aload_n 0, 1) := by decide +kernel
theorem dX5_namedPart_33 : decode cX5_namedPart 33 = .ok (.getfield 57, 3) := by decide +kernel
theorem dX5_namedPart_36 : decode cX5_namedPart 36 = .ok (.invokevirtual 84, 3) := by decide +kernel
theorem dX5_namedPart_39 : decode cX5_namedPart 39 = .ok (.return_, 1) := by decide +kernel
theorem dX5_namedPart_40 : decode cX5_namedPart 40 = .ok (.aload_n 0, 1) := by decide +kernel
theorem dX5_namedPart_41 : decode cX5_namedPart 41 = .ok (.getfield 26, 3) := by decide +kernel
theorem dX5_namedPart_44 : decode cX5_namedPart 44 = .ok (.iload_n 1, 1) := by decide +kernel
theorem dX5_namedPart_45 : decode cX5_namedPart 45 = .ok (.invokevirtual 180, 3) := by decide +kernel
theorem dX5_namedPart_48 : decode cX5_namedPart 48 = .ok (.aload_n 0, 1) := by decide +kernel
theorem dX5_namedPart_49 : decode cX5_namedPart 49 = .ok (.invokevirtual 54, 3) := by decide +kernel
theorem dX5_namedPart_52 : decode cX5_namedPart 52 = .ok (.return_, 1) := by decide +kernel
theorem dX5_stepOf_0 : decode cX5_stepOf 0 = .ok (.iload_n 0, 1) := by decide +kernel
theorem dX5_stepOf_1 : decode cX5_stepOf 1 = .ok (.tableswitch 168 4 22 #[91, 93, 168, 168, 168, 168, 168, 168, 168, 168, 168, 96, 102, 99, 113, 124, 135, 146, 157], 91) := by decide +kernel
theorem dX5_stepOf_92 : decode cX5_stepOf 92 = .ok (.iconst (-1), 1) := by decide +kernel
theorem dX5_stepOf_93 : decode cX5_stepOf 93 = .ok (.ireturn, 1) := by decide +kernel
theorem dX5_stepOf_94 : decode cX5_stepOf 94 = .ok (.bipush (-2), 2) := by decide +kernel
theorem dX5_stepOf_96 : decode cX5_stepOf 96 = .ok (.ireturn, 1) := by decide +kernel
theorem dX5_stepOf_97 : decode cX5_stepOf 97 = .ok (.bipush (-3), 2) := by decide +kernel
theorem dX5_stepOf_99 : decode cX5_stepOf 99 = .ok (.ireturn, 1) := by decide +kernel
theorem dX5_stepOf_100 : decode cX5_stepOf 100 = .ok (.bipush (-5), 2) := by decide +kernel
theorem dX5_stepOf_102 : decode cX5_stepOf 102 = .ok (.ireturn, 1) := by decide +kernel
theorem dX5_stepOf_103 : decode cX5_stepOf 103 = .ok (.iload_n 1, 1) := by decide +kernel
theorem dX5_stepOf_104 : decode cX5_stepOf 104 = .ok (.ifCond .eq 7, 3) := by decide +kernel
theorem dX5_stepOf_107 : decode cX5_stepOf 107 = .ok (.iconst 0, 1) := by decide +kernel
theorem dX5_stepOf_108 : decode cX5_stepOf 108 = .ok (.goto 5, 3) := by decide +kernel
theorem dX5_stepOf_111 : decode cX5_stepOf 111 = .ok (.bipush (-4), 2) := by decide +kernel
theorem dX5_stepOf_113 : decode cX5_stepOf 113 = .ok (.ireturn, 1) := by decide +kernel
theorem dX5_stepOf_114 : decode cX5_stepOf 114 = .ok (.iload_n 1, 1) := by decide +kernel
theorem dX5_stepOf_115 : decode cX5_stepOf 115 = .ok (.ifCond .eq 7, 3) := by decide +kernel
theorem dX5_stepOf_118 : decode cX5_stepOf 118 = .ok (.iconst 0, 1) := by decide +kernel
theorem dX5_stepOf_119 : decode cX5_stepOf 119 = .ok (.goto 5, 3) := by decide +kernel
theorem dX5_stepOf_122 : decode cX5_stepOf 122 = .ok (.bipush (-6), 2) := by decide +kernel
theorem dX5_stepOf_124 : decode cX5_stepOf 124 = .ok (.ireturn, 1) := by decide +kernel
theorem dX5_stepOf_125 : decode cX5_stepOf 125 = .ok (.iload_n 1, 1) := by decide +kernel
theorem dX5_stepOf_126 : decode cX5_stepOf 126 = .ok (.ifCond .eq 7, 3) := by decide +kernel
theorem dX5_stepOf_129 : decode cX5_stepOf 129 = .ok (.iconst 0, 1) := by decide +kernel
theorem dX5_stepOf_130 : decode cX5_stepOf 130 = .ok (.goto 5, 3) := by decide +kernel
theorem dX5_stepOf_133 : decode cX5_stepOf 133 = .ok (.bipush (-7), 2) := by decide +kernel
theorem dX5_stepOf_135 : decode cX5_stepOf 135 = .ok (.ireturn, 1) := by decide +kernel
theorem dX5_stepOf_136 : decode cX5_stepOf 136 = .ok (.iload_n 1, 1) := by decide +kernel
theorem dX5_stepOf_137 : decode cX5_stepOf 137 = .ok (.ifCond .eq 8, 3) := by decide +kernel
theorem dX5_stepOf_140 : decode cX5_stepOf 140 = .ok (.bipush (-8), 2) := by decide +kernel
theorem dX5_stepOf_142 : decode cX5_stepOf 142 = .ok (.goto 4, 3) := by decide +kernel
theorem dX5_stepOf_145 : decode cX5_stepOf 145 = .ok (.iconst 0, 1) := by decide +kernel
theorem dX5_stepOf_146 : decode cX5_stepOf 146 = .ok (.ireturn, 1) := by decide +kernel
theorem dX5_stepOf_147 : decode cX5_stepOf 147 = .ok (.iload_n 1, 1) := by decide +kernel
theorem dX5_stepOf_148 : decode cX5_stepOf 148 = .ok (.ifCond .eq 8, 3) := by decide +kernel
theorem dX5_stepOf_151 : decode cX5_stepOf 151 = .ok (.bipush (-9), 2) := by decide +kernel
theorem dX5_stepOf_153 : decode cX5_stepOf 153 = .ok (.goto 4, 3) := by decide +kernel
theorem dX5_stepOf_156 : decode cX5_stepOf 156 = .ok (.iconst 0, 1) := by decide +kernel
theorem dX5_stepOf_157 : decode cX5_stepOf 157 = .ok (.ireturn, 1) := by decide +kernel
theorem dX5_stepOf_158 : decode cX5_stepOf 158 = .ok (.iload_n 1, 1) := by decide +kernel
theorem dX5_stepOf_159 : decode cX5_stepOf 159 = .ok (.ifCond .eq 8, 3) := by decide +kernel
theorem dX5_stepOf_162 : decode cX5_stepOf 162 = .ok (.bipush (-10), 2) := by decide +kernel
theorem dX5_stepOf_164 : decode cX5_stepOf 164 = .ok (.goto 4, 3) := by decide +kernel
theorem dX5_stepOf_167 : decode cX5_stepOf 167 = .ok (.iconst 0, 1) := by decide +kernel
theorem dX5_stepOf_168 : decode cX5_stepOf 168 = .ok (.ireturn, 1) := by decide +kernel
theorem dX5_stepOf_169 : decode cX5_stepOf 169 = .ok (.iconst 0, 1) := by decide +kernel
theorem dX5_stepOf_170 : decode cX5_stepOf 170 = .ok (.ireturn, 1) := by decide +kernel
