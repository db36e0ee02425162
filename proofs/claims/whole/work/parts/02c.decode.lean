theorem dX11_read_271 : decode cX11_read 271 = .ok (.bastore, 1) := by decide +kernel
theorem dX11_read_272 : decode cX11_read 272 = .ok (.aload_n 0, 1) := by decide +kernel
theorem dX11_read_273 : decode cX11_read 273 = .ok (.getfield 140, 3) := by decide +kernel
theorem dX11_read_276 : decode cX11_read 276 = .ok (.bipush 6, 2) := by decide +kernel
theorem dX11_read_278 : decode cX11_read 278 = .ok (.iload_n 1, 1) := by decide +kernel
theorem dX11_read_279 : decode cX11_read 279 = .ok (.imul, 1) := by decide +kernel
theorem dX11_read_280 : decode cX11_read 280 = .ok (.iload_n 2, 1) := by decide +kernel
theorem dX11_read_281 : decode cX11_read 281 = .ok (.iadd, 1) := by decide +kernel
theorem dX11_read_282 : decode cX11_read 282 = .ok (.iconst 0, 1) := by decide +kernel
theorem dX11_read_283 : decode cX11_read 283 = .ok (.iastore, 1) := by decide +kernel
theorem dX11_read_284 : decode cX11_read 284 = .ok (.iconst 0, 1) := by decide +kernel
theorem dX11_read_285 : decode cX11_read 285 = .ok (.istore_n 3, 1) := by decide +kernel
theorem dX11_read_286 : decode cX11_read 286 = .ok (.iload_n 3, 1) := by decide +kernel
theorem dX11_read_287 : decode cX11_read 287 = .ok (.bipush 8, 2) := by decide +kernel
theorem dX11_read_289 : decode cX11_read 289 = .ok (.if_icmp .ge 26, 3) := by decide +kernel
theorem dX11_read_292 : decode cX11_read 292 = .ok (.aload_n 0, 1) := by decide +kernel
theorem dX11_read_293 : decode cX11_read 293 = .ok (.getfield 143, 3) := by decide +kernel
theorem dX11_read_296 : decode cX11_read 296 = .ok (.bipush 8, 2) := by decide +kernel
theorem dX11_read_298 : decode cX11_read 298 = .ok (.bipush 6, 2) := by decide +kernel
theorem dX11_read_300 : decode cX11_read 300 = .ok (.iload_n 1, 1) := by decide +kernel
theorem dX11_read_301 : decode cX11_read 301 = .ok (.imul, 1) := by decide +kernel
theorem dX11_read_302 : decode cX11_read 302 = .ok (.iload_n 2, 1) := by decide +kernel
theorem dX11_read_303 : decode cX11_read 303 = .ok (.iadd, 1) := by decide +kernel
theorem dX11_read_304 : decode cX11_read 304 = .ok (.imul, 1) := by decide +kernel
theorem dX11_read_305 : decode cX11_read 305 = .ok (.iload_n 3, 1) := by decide +kernel
theorem dX11_read_306 : decode cX11_read 306 = .ok (.iadd, 1) := by decide +kernel
theorem dX11_read_307 : decode cX11_read 307 = .ok (.lconst 0, 1) := by decide +kernel
theorem dX11_read_308 : decode cX11_read 308 = .ok (.lastore, 1) := by decide +kernel
theorem dX11_read_309 : decode cX11_read 309 = .ok (.iinc 3 1, 3) := by decide +kernel
theorem dX11_read_312 : decode cX11_read 312 = .ok (.goto (-26), 3) := by decide +kernel
theorem dX11_read_315 : decode cX11_read 315 = .ok (.iinc 2 1, 3) := by decide +kernel
theorem dX11_read_318 : decode cX11_read 318 = .ok (.goto (-76), 3) := by decide +kernel
theorem dX11_read_321 : decode cX11_read 321 = .ok (.iinc 1 1, 3) := by decide +kernel
theorem dX11_read_324 : decode cX11_read 324 = .ok (.goto (-118), 3) := by decide +kernel
theorem dX11_read_327 : decode cX11_read 327 = .ok (.iconst 0, 1) := by decide +kernel
theorem dX11_read_328 : decode cX11_read 328 = .ok (.ireturn, 1) := by decide +kernel
theorem dX11_place_0 : decode cX11_place 0 = .ok (.aload_n 0, 1) := by decide +kernel
theorem dX11_place_1 : decode cX11_place 1 = .ok (.getfield 37, 3) := by decide +kernel
theorem dX11_place_4 : decode cX11_place 4 = .ok (.ireturn, 1) := by decide +kernel
theorem dX11_inRange_0 : decode cX11_inRange 0 = .ok (.aload_n 0, 1) := by decide +kernel
theorem dX11_inRange_1 : decode cX11_inRange 1 = .ok (.getfield 207, 3) := by decide +kernel
theorem dX11_inRange_4 : decode cX11_inRange 4 = .ok (.istore_n 3, 1) := by decide +kernel
theorem dX11_inRange_5 : decode cX11_inRange 5 = .ok (.aload_n 0, 1) := by decide +kernel
theorem dX11_inRange_6 : decode cX11_inRange 6 = .ok (.iconst 2, 1) := by decide +kernel
theorem dX11_inRange_7 : decode cX11_inRange 7 = .ok (.invokevirtual 246, 3) := by decide +kernel
theorem dX11_inRange_10 : decode cX11_inRange 10 = .ok (.aload_n 0, 1) := by decide +kernel
theorem dX11_inRange_11 : decode cX11_inRange 11 = .ok (.getfield 204, 3) := by decide +kernel
theorem dX11_inRange_14 : decode cX11_inRange 14 = .ok (.ifCond .le 5, 3) := by decide +kernel
theorem dX11_inRange_17 : decode cX11_inRange 17 = .ok (.iconst 0, 1) := by decide +kernel
theorem dX11_inRange_18 : decode cX11_inRange 18 = .ok (.ireturn, 1) := by decide +kernel
theorem dX11_inRange_19 : decode cX11_inRange 19 = .ok (.aload_n 0, 1) := by decide +kernel
theorem dX11_inRange_20 : decode cX11_inRange 20 = .ok (.getfield 27, 3) := by decide +kernel
theorem dX11_inRange_23 : decode cX11_inRange 23 = .ok (.iload_n 3, 1) := by decide +kernel
theorem dX11_inRange_24 : decode cX11_inRange 24 = .ok (.iaload, 1) := by decide +kernel
theorem dX11_inRange_25 : decode cX11_inRange 25 = .ok (.iload_n 1, 1) := by decide +kernel
theorem dX11_inRange_26 : decode cX11_inRange 26 = .ok (.if_icmp .lt 13, 3) := by decide +kernel
theorem dX11_inRange_29 : decode cX11_inRange 29 = .ok (.aload_n 0, 1) := by decide +kernel
theorem dX11_inRange_30 : decode cX11_inRange 30 = .ok (.getfield 27, 3) := by decide +kernel
theorem dX11_inRange_33 : decode cX11_inRange 33 = .ok (.iload_n 3, 1) := by decide +kernel
theorem dX11_inRange_34 : decode cX11_inRange 34 = .ok (.iaload, 1) := by decide +kernel
theorem dX11_inRange_35 : decode cX11_inRange 35 = .ok (.iload_n 2, 1) := by decide +kernel
theorem dX11_inRange_36 : decode cX11_inRange 36 = .ok (.if_icmp .le 9, 3) := by decide +kernel
theorem dX11_inRange_39 : decode cX11_inRange 39 = .ok (.aload_n 0, 1) := by decide +kernel
theorem dX11_inRange_40 : decode cX11_inRange 40 = .ok (.iconst 5, 1) := by decide +kernel
theorem dX11_inRange_41 : decode cX11_inRange 41 = .ok (.iload_n 3, 1) := by decide +kernel
theorem dX11_inRange_42 : decode cX11_inRange 42 = .ok (.invokevirtual 249, 3) := by decide +kernel
theorem dX11_inRange_45 : decode cX11_inRange 45 = .ok (.aload_n 0, 1) := by decide +kernel
theorem dX11_inRange_46 : decode cX11_inRange 46 = .ok (.getfield 27, 3) := by decide +kernel
theorem dX11_inRange_49 : decode cX11_inRange 49 = .ok (.iload_n 3, 1) := by decide +kernel
theorem dX11_inRange_50 : decode cX11_inRange 50 = .ok (.iaload, 1) := by decide +kernel
theorem dX11_inRange_51 : decode cX11_inRange 51 = .ok (.ireturn, 1) := by decide +kernel
theorem dX11_tell_0 : decode cX11_tell 0 = .ok (.aload_n 0, 1) := by decide +kernel
theorem dX11_tell_1 : decode cX11_tell 1 = .ok (.bipush 20, 2) := by decide +kernel
theorem dX11_tell_3 : decode cX11_tell 3 = .ok (.invokevirtual 222, 3) := by decide +kernel
theorem dX11_tell_6 : decode cX11_tell 6 = .ok (.ifCond .ne 20, 3) := by decide +kernel
theorem dX11_tell_9 : decode cX11_tell 9 = .ok (.aload_n 0, 1) := by decide +kernel
theorem dX11_tell_10 : decode cX11_tell 10 = .ok (.bipush 22, 2) := by decide +kernel
theorem dX11_tell_12 : decode cX11_tell 12 = .ok (.invokevirtual 222, 3) := by decide +kernel
theorem dX11_tell_15 : decode cX11_tell 15 = .ok (.ifCond .ne 11, 3) := by decide +kernel
theorem dX11_tell_18 : decode cX11_tell 18 = .ok (.aload_n 0, 1) := by decide +kernel
theorem dX11_tell_19 : decode cX11_tell 19 = .ok (.iconst 1, 1) := by decide +kernel
theorem dX11_tell_20 : decode cX11_tell 20 = .ok (.invokevirtual 219, 3) := by decide +kernel
theorem dX11_tell_23 : decode cX11_tell 23 = .ok (.goto 22, 3) := by decide +kernel
theorem dX11_tell_26 : decode cX11_tell 26 = .ok (.aload_n 0, 1) := by decide +kernel
theorem dX11_tell_27 : decode cX11_tell 27 = .ok (.getfield 40, 3) := by decide +kernel
theorem dX11_tell_30 : decode cX11_tell 30 = .ok (.aload_n 0, 1) := by decide +kernel
theorem dX11_tell_31 : decode cX11_tell 31 = .ok (.getfield 237, 3) := by decide +kernel
theorem dX11_tell_34 : decode cX11_tell 34 = .ok (.iaload, 1) := by decide +kernel
theorem dX11_tell_35 : decode cX11_tell 35 = .ok (.bipush 7, 2) := by decide +kernel
theorem dX11_tell_37 : decode cX11_tell 37 = .ok (.if_icmp .ne 8, 3) := by decide +kernel
theorem dX11_tell_40 : decode cX11_tell 40 = .ok (.aload_n 0, 1) := by decide +kernel
theorem dX11_tell_41 : decode cX11_tell 41 = .ok (.iconst 2, 1) := by decide +kernel
theorem dX11_tell_42 : decode cX11_tell 42 = .ok (.invokevirtual 219, 3) := by decide +kernel
theorem dX11_tell_45 : decode cX11_tell 45 = .ok (.aload_n 0, 1) := by decide +kernel
theorem dX11_tell_46 : decode cX11_tell 46 = .ok (.getfield 204, 3) := by decide +kernel
theorem dX11_tell_49 : decode cX11_tell 49 = .ok (.ifCond .le 4, 3) := by decide +kernel
theorem dX11_tell_52 : decode cX11_tell 52 = .ok (.return_, 1) := by decide +kernel
theorem dX11_tell_53 : decode cX11_tell 53 = .ok (.bipush 7, 2) := by decide +kernel
theorem dX11_tell_55 : decode cX11_tell 55 = .ok (.aload_n 0, 1) := by decide +kernel
theorem dX11_tell_56 : decode cX11_tell 56 = .ok (.getfield 237, 3) := by decide +kernel
theorem dX11_tell_59 : decode cX11_tell 59 = .ok (.imul, 1) := by decide +kernel
theorem dX11_tell_60 : decode cX11_tell 60 = .ok (.aload_n 0, 1) := by decide +kernel
theorem dX11_tell_61 : decode cX11_tell 61 = .ok (.getfield 40, 3) := by decide +kernel
theorem dX11_tell_64 : decode cX11_tell 64 = .ok (.aload_n 0, 1) := by decide +kernel
theorem dX11_tell_65 : decode cX11_tell 65 = .ok (.getfield 237, 3) := by decide +kernel
theorem dX11_tell_68 : decode cX11_tell 68 = .ok (.iaload, 1) := by decide +kernel
theorem dX11_tell_69 : decode cX11_tell 69 = .ok (.iadd, 1) := by decide +kernel
theorem dX11_tell_70 : decode cX11_tell 70 = .ok (.istore_n 1, 1) := by decide +kernel
theorem dX11_tell_71 : decode cX11_tell 71 = .ok (.aload_n 0, 1) := by decide +kernel
theorem dX11_tell_72 : decode cX11_tell 72 = .ok (.getfield 46, 3) := by decide +kernel
theorem dX11_tell_75 : decode cX11_tell 75 = .ok (.iload_n 1, 1) := by decide +kernel
theorem dX11_tell_76 : decode cX11_tell 76 = .ok (.aload_n 0, 1) := by decide +kernel
theorem dX11_tell_77 : decode cX11_tell 77 = .ok (.bipush 22, 2) := by decide +kernel
theorem dX11_tell_79 : decode cX11_tell 79 = .ok (.invokevirtual 222, 3) := by decide +kernel
theorem dX11_tell_82 : decode cX11_tell 82 = .ok (.bastore, 1) := by decide +kernel
theorem dX11_tell_83 : decode cX11_tell 83 = .ok (.aload_n 0, 1) := by decide +kernel
theorem dX11_tell_84 : decode cX11_tell 84 = .ok (.invokevirtual 225, 3) := by decide +kernel
theorem dX11_tell_87 : decode cX11_tell 87 = .ok (.aload_n 0, 1) := by decide +kernel
theorem dX11_tell_88 : decode cX11_tell 88 = .ok (.getfield 207, 3) := by decide +kernel
theorem dX11_tell_91 : decode cX11_tell 91 = .ok (.istore_n 2, 1) := by decide +kernel
theorem dX11_tell_92 : decode cX11_tell 92 = .ok (.aload_n 0, 1) := by decide +kernel
theorem dX11_tell_93 : decode cX11_tell 93 = .ok (.iconst 1, 1) := by decide +kernel
theorem dX11_tell_94 : decode cX11_tell 94 = .ok (.invokevirtual 246, 3) := by decide +kernel
theorem dX11_tell_97 : decode cX11_tell 97 = .ok (.aload_n 0, 1) := by decide +kernel
theorem dX11_tell_98 : decode cX11_tell 98 = .ok (.bipush 21, 2) := by decide +kernel
theorem dX11_tell_100 : decode cX11_tell 100 = .ok (.invokevirtual 246, 3) := by decide +kernel
theorem dX11_tell_103 : decode cX11_tell 103 = .ok (.aload_n 0, 1) := by decide +kernel
theorem dX11_tell_104 : decode cX11_tell 104 = .ok (.getfield 50, 3) := by decide +kernel
theorem dX11_tell_107 : decode cX11_tell 107 = .ok (.iload_n 1, 1) := by decide +kernel
theorem dX11_tell_108 : decode cX11_tell 108 = .ok (.aload_n 0, 1) := by decide +kernel
theorem dX11_tell_109 : decode cX11_tell 109 = .ok (.iconst 1, 1) := by decide +kernel
theorem dX11_tell_110 : decode cX11_tell 110 = .ok (.bipush 20, 2) := by decide +kernel
theorem dX11_tell_112 : decode cX11_tell 112 = .ok (.invokevirtual 253, 3) := by decide +kernel
theorem dX11_tell_115 : decode cX11_tell 115 = .ok (.iastore, 1) := by decide +kernel
theorem dX11_tell_116 : decode cX11_tell 116 = .ok (.aload_n 0, 1) := by decide +kernel
theorem dX11_tell_117 : decode cX11_tell 117 = .ok (.getfield 53, 3) := by decide +kernel
theorem dX11_tell_120 : decode cX11_tell 120 = .ok (.iload_n 1, 1) := by decide +kernel
theorem dX11_tell_121 : decode cX11_tell 121 = .ok (.iconst 0, 1) := by decide +kernel
theorem dX11_tell_122 : decode cX11_tell 122 = .ok (.iastore, 1) := by decide +kernel
theorem dX11_tell_123 : decode cX11_tell 123 = .ok (.aload_n 0, 1) := by decide +kernel
theorem dX11_tell_124 : decode cX11_tell 124 = .ok (.getfield 56, 3) := by decide +kernel
theorem dX11_tell_127 : decode cX11_tell 127 = .ok (.iload_n 1, 1) := by decide +kernel
theorem dX11_tell_128 : decode cX11_tell 128 = .ok (.iconst 0, 1) := by decide +kernel
theorem dX11_tell_129 : decode cX11_tell 129 = .ok (.iastore, 1) := by decide +kernel
theorem dX11_tell_130 : decode cX11_tell 130 = .ok (.aload_n 0, 1) := by decide +kernel
theorem dX11_tell_131 : decode cX11_tell 131 = .ok (.getfield 46, 3) := by decide +kernel
theorem dX11_tell_134 : decode cX11_tell 134 = .ok (.iload_n 1, 1) := by decide +kernel
theorem dX11_tell_135 : decode cX11_tell 135 = .ok (.baload, 1) := by decide +kernel
theorem dX11_tell_136 : decode cX11_tell 136 = .ok (.ifCond .eq 42, 3) := by decide +kernel
theorem dX11_tell_139 : decode cX11_tell 139 = .ok (.aload_n 0, 1) := by decide +kernel
theorem dX11_tell_140 : decode cX11_tell 140 = .ok (.bipush 23, 2) := by decide +kernel
theorem dX11_tell_142 : decode cX11_tell 142 = .ok (.invokevirtual 246, 3) := by decide +kernel
theorem dX11_tell_145 : decode cX11_tell 145 = .ok (.aload_n 0, 1) := by decide +kernel
theorem dX11_tell_146 : decode cX11_tell 146 = .ok (.getfield 53, 3) := by decide +kernel
theorem dX11_tell_149 : decode cX11_tell 149 = .ok (.iload_n 1, 1) := by decide +kernel
theorem dX11_tell_150 : decode cX11_tell 150 = .ok (.aload_n 0, 1) := by decide +kernel
theorem dX11_tell_151 : decode cX11_tell 151 = .ok (.iconst 0, 1) := by decide +kernel
theorem dX11_tell_152 : decode cX11_tell 152 = .ok (.sipush 399, 3) := by decide +kernel
theorem dX11_tell_155 : decode cX11_tell 155 = .ok (.invokevirtual 253, 3) := by decide +kernel
theorem dX11_tell_158 : decode cX11_tell 158 = .ok (.iastore, 1) := by decide +kernel
theorem dX11_tell_159 : decode cX11_tell 159 = .ok (.aload_n 0, 1) := by decide +kernel
theorem dX11_tell_160 : decode cX11_tell 160 = .ok (.bipush 24, 2) := by decide +kernel
theorem dX11_tell_162 : decode cX11_tell 162 = .ok (.invokevirtual 246, 3) := by decide +kernel
theorem dX11_tell_165 : decode cX11_tell 165 = .ok (.aload_n 0, 1) := by decide +kernel
theorem dX11_tell_166 : decode cX11_tell 166 = .ok (.getfield 56, 3) := by decide +kernel
theorem dX11_tell_169 : decode cX11_tell 169 = .ok (.iload_n 1, 1) := by decide +kernel
theorem dX11_tell_170 : decode cX11_tell 170 = .ok (.aload_n 0, 1) := by decide +kernel
theorem dX11_tell_171 : decode cX11_tell 171 = .ok (.iconst 0, 1) := by decide +kernel
theorem dX11_tell_172 : decode cX11_tell 172 = .ok (.bipush 100, 2) := by decide +kernel
theorem dX11_tell_174 : decode cX11_tell 174 = .ok (.invokevirtual 253, 3) := by decide +kernel
theorem dX11_tell_177 : decode cX11_tell 177 = .ok (.iastore, 1) := by decide +kernel
theorem dX11_tell_178 : decode cX11_tell 178 = .ok (.aload_n 0, 1) := by decide +kernel
theorem dX11_tell_179 : decode cX11_tell 179 = .ok (.iconst 4, 1) := by decide +kernel
theorem dX11_tell_180 : decode cX11_tell 180 = .ok (.invokevirtual 246, 3) := by decide +kernel
theorem dX11_tell_183 : decode cX11_tell 183 = .ok (.aload_n 0, 1) := by decide +kernel
theorem dX11_tell_184 : decode cX11_tell 184 = .ok (.getfield 204, 3) := by decide +kernel
theorem dX11_tell_187 : decode cX11_tell 187 = .ok (.ifCond .le 4, 3) := by decide +kernel
theorem dX11_tell_190 : decode cX11_tell 190 = .ok (.return_, 1) := by decide +kernel
theorem dX11_tell_191 : decode cX11_tell 191 = .ok (.bipush 7, 2) := by decide +kernel
theorem dX11_tell_193 : decode cX11_tell 193 = .ok (.aload_n 0, 1) := by decide +kernel
theorem dX11_tell_194 : decode cX11_tell 194 = .ok (.getfield 237, 3) := by decide +kernel
theorem dX11_tell_197 : decode cX11_tell 197 = .ok (.imul, 1) := by decide +kernel
theorem dX11_tell_198 : decode cX11_tell 198 = .ok (.istore_n 3, 1) := by decide +kernel
theorem dX11_tell_199 : decode cX11_tell 199 = .ok (.iload_n 3, 1) := by decide +kernel
theorem dX11_tell_200 : decode cX11_tell 200 = .ok (.iload_n 1, 1) := by decide +kernel
theorem dX11_tell_201 : decode cX11_tell 201 = .ok (.if_icmp .ge 31, 3) := by decide +kernel
theorem dX11_tell_204 : decode cX11_tell 204 = .ok (.aload_n 0, 1) := by decide +kernel
theorem dX11_tell_205 : decode cX11_tell 205 = .ok (.getfield 43, 3) := by decide +kernel
theorem dX11_tell_208 : decode cX11_tell 208 = .ok (.iload_n 3, 1) := by decide +kernel
theorem dX11_tell_209 : decode cX11_tell 209 = .ok (.laload, 1) := by decide +kernel
theorem dX11_tell_210 : decode cX11_tell 210 = .ok (.aload_n 0, 1) := by decide +kernel
theorem dX11_tell_211 : decode cX11_tell 211 = .ok (.getfield 30, 3) := by decide +kernel
theorem dX11_tell_214 : decode cX11_tell 214 = .ok (.iload_n 2, 1) := by decide +kernel
theorem dX11_tell_215 : decode cX11_tell 215 = .ok (.laload, 1) := by decide +kernel
theorem dX11_tell_216 : decode cX11_tell 216 = .ok (.lcmp, 1) := by decide +kernel
theorem dX11_tell_217 : decode cX11_tell 217 = .ok (.ifCond .ne 9, 3) := by decide +kernel
theorem dX11_tell_220 : decode cX11_tell 220 = .ok (.aload_n 0, 1) := by decide +kernel
theorem dX11_tell_221 : decode cX11_tell 221 = .ok (.iconst 3, 1) := by decide +kernel
theorem dX11_tell_222 : decode cX11_tell 222 = .ok (.iload_n 2, 1) := by decide +kernel
theorem dX11_tell_223 : decode cX11_tell 223 = .ok (.invokevirtual 249, 3) := by decide +kernel
theorem dX11_tell_226 : decode cX11_tell 226 = .ok (.iinc 3 1, 3) := by decide +kernel
theorem dX11_tell_229 : decode cX11_tell 229 = .ok (.goto (-30), 3) := by decide +kernel
theorem dX11_tell_232 : decode cX11_tell 232 = .ok (.aload_n 0, 1) := by decide +kernel
theorem dX11_tell_233 : decode cX11_tell 233 = .ok (.getfield 59, 3) := by decide +kernel
theorem dX11_tell_236 : decode cX11_tell 236 = .ok (.iload_n 1, 1) := by decide +kernel
theorem dX11_tell_237 : decode cX11_tell 237 = .ok (.aload_n 0, 1) := by decide +kernel
theorem dX11_tell_238 : decode cX11_tell 238 = .ok (.getfield 240, 3) := by decide +kernel
theorem dX11_tell_241 : decode cX11_tell 241 = .ok (.iastore, 1) := by decide +kernel
theorem dX11_tell_242 : decode cX11_tell 242 = .ok (.aload_n 0, 1) := by decide +kernel
theorem dX11_tell_243 : decode cX11_tell 243 = .ok (.iconst 0, 1) := by decide +kernel
theorem dX11_tell_244 : decode cX11_tell 244 = .ok (.putfield 257, 3) := by decide +kernel
theorem dX11_tell_247 : decode cX11_tell 247 = .ok (.aload_n 0, 1) := by decide +kernel
theorem dX11_tell_248 : decode cX11_tell 248 = .ok (.iconst 0, 1) := by decide +kernel
theorem dX11_tell_249 : decode cX11_tell 249 = .ok (.putfield 260, 3) := by decide +kernel
theorem dX11_tell_252 : decode cX11_tell 252 = .ok (.aload_n 0, 1) := by decide +kernel
theorem dX11_tell_253 : decode cX11_tell 253 = .ok (.invokevirtual 263, 3) := by decide +kernel
theorem dX11_tell_256 : decode cX11_tell 256 = .ok (.aload_n 0, 1) := by decide +kernel
theorem dX11_tell_257 : decode cX11_tell 257 = .ok (.getfield 62, 3) := by decide +kernel
theorem dX11_tell_260 : decode cX11_tell 260 = .ok (.iload_n 1, 1) := by decide +kernel
theorem dX11_tell_261 : decode cX11_tell 261 = .ok (.aload_n 0, 1) := by decide +kernel
theorem dX11_tell_262 : decode cX11_tell 262 = .ok (.getfield 240, 3) := by decide +kernel
theorem dX11_tell_265 : decode cX11_tell 265 = .ok (.iastore, 1) := by decide +kernel
theorem dX11_tell_266 : decode cX11_tell 266 = .ok (.aload_n 0, 1) := by decide +kernel
theorem dX11_tell_267 : decode cX11_tell 267 = .ok (.bipush 6, 2) := by decide +kernel
theorem dX11_tell_269 : decode cX11_tell 269 = .ok (.invokevirtual 246, 3) := by decide +kernel
theorem dX11_tell_272 : decode cX11_tell 272 = .ok (.aload_n 0, 1) := by decide +kernel
theorem dX11_tell_273 : decode cX11_tell 273 = .ok (.getfield 204, 3) := by decide +kernel
theorem dX11_tell_276 : decode cX11_tell 276 = .ok (.ifCond .le 4, 3) := by decide +kernel
theorem dX11_tell_279 : decode cX11_tell 279 = .ok (.return_, 1) := by decide +kernel
theorem dX11_tell_280 : decode cX11_tell 280 = .ok (.aload_n 0, 1) := by decide +kernel
theorem dX11_tell_281 : decode cX11_tell 281 = .ok (.getfield 43, 3) := by decide +kernel
theorem dX11_tell_284 : decode cX11_tell 284 = .ok (.iload_n 1, 1) := by decide +kernel
theorem dX11_tell_285 : decode cX11_tell 285 = .ok (.aload_n 0, 1) := by decide +kernel
theorem dX11_tell_286 : decode cX11_tell 286 = .ok (.getfield 30, 3) := by decide +kernel
theorem dX11_tell_289 : decode cX11_tell 289 = .ok (.iload_n 2, 1) := by decide +kernel
theorem dX11_tell_290 : decode cX11_tell 290 = .ok (.laload, 1) := by decide +kernel
theorem dX11_tell_291 : decode cX11_tell 291 = .ok (.lastore, 1) := by decide +kernel
theorem dX11_tell_292 : decode cX11_tell 292 = .ok (.aload_n 0, 1) := by decide +kernel
theorem dX11_tell_293 : decode cX11_tell 293 = .ok (.getfield 65, 3) := by decide +kernel
theorem dX11_tell_296 : decode cX11_tell 296 = .ok (.iload_n 1, 1) := by decide +kernel
theorem dX11_tell_297 : decode cX11_tell 297 = .ok (.aload_n 0, 1) := by decide +kernel
theorem dX11_tell_298 : decode cX11_tell 298 = .ok (.getfield 257, 3) := by decide +kernel
theorem dX11_tell_301 : decode cX11_tell 301 = .ok (.iastore, 1) := by decide +kernel
theorem dX11_tell_302 : decode cX11_tell 302 = .ok (.aload_n 0, 1) := by decide +kernel
theorem dX11_tell_303 : decode cX11_tell 303 = .ok (.getfield 68, 3) := by decide +kernel
theorem dX11_tell_306 : decode cX11_tell 306 = .ok (.iload_n 1, 1) := by decide +kernel
theorem dX11_tell_307 : decode cX11_tell 307 = .ok (.aload_n 0, 1) := by decide +kernel
theorem dX11_tell_308 : decode cX11_tell 308 = .ok (.getfield 260, 3) := by decide +kernel
theorem dX11_tell_311 : decode cX11_tell 311 = .ok (.iastore, 1) := by decide +kernel
theorem dX11_tell_312 : decode cX11_tell 312 = .ok (.aload_n 0, 1) := by decide +kernel
theorem dX11_tell_313 : decode cX11_tell 313 = .ok (.getfield 71, 3) := by decide +kernel
theorem dX11_tell_316 : decode cX11_tell 316 = .ok (.iload_n 1, 1) := by decide +kernel
theorem dX11_tell_317 : decode cX11_tell 317 = .ok (.aload_n 0, 1) := by decide +kernel
theorem dX11_tell_318 : decode cX11_tell 318 = .ok (.getfield 257, 3) := by decide +kernel
theorem dX11_tell_321 : decode cX11_tell 321 = .ok (.iastore, 1) := by decide +kernel
theorem dX11_tell_322 : decode cX11_tell 322 = .ok (.iconst 0, 1) := by decide +kernel
theorem dX11_tell_323 : decode cX11_tell 323 = .ok (.istore_n 3, 1) := by decide +kernel
theorem dX11_tell_324 : decode cX11_tell 324 = .ok (.iload_n 3, 1) := by decide +kernel
theorem dX11_tell_325 : decode cX11_tell 325 = .ok (.aload_n 0, 1) := by decide +kernel
theorem dX11_tell_326 : decode cX11_tell 326 = .ok (.getfield 40, 3) := by decide +kernel
theorem dX11_tell_329 : decode cX11_tell 329 = .ok (.aload_n 0, 1) := by decide +kernel
theorem dX11_tell_330 : decode cX11_tell 330 = .ok (.getfield 237, 3) := by decide +kernel
theorem dX11_tell_333 : decode cX11_tell 333 = .ok (.iaload, 1) := by decide +kernel
theorem dX11_tell_334 : decode cX11_tell 334 = .ok (.if_icmp .ge 44, 3) := by decide +kernel
theorem dX11_tell_337 : decode cX11_tell 337 = .ok (.aload_n 0, 1) := by decide +kernel
theorem dX11_tell_338 : decode cX11_tell 338 = .ok (.getfield 260, 3) := by decide +kernel
theorem dX11_tell_341 : decode cX11_tell 341 = .ok (.iload_n 3, 1) := by decide +kernel
theorem dX11_tell_342 : decode cX11_tell 342 = .ok (.ishr, 1) := by decide +kernel
theorem dX11_tell_343 : decode cX11_tell 343 = .ok (.iconst 1, 1) := by decide +kernel
theorem dX11_tell_344 : decode cX11_tell 344 = .ok (.iand, 1) := by decide +kernel
theorem dX11_tell_345 : decode cX11_tell 345 = .ok (.iconst 1, 1) := by decide +kernel
theorem dX11_tell_346 : decode cX11_tell 346 = .ok (.if_icmp .ne 26, 3) := by decide +kernel
theorem dX11_tell_349 : decode cX11_tell 349 = .ok (.aload_n 0, 1) := by decide +kernel
theorem dX11_tell_350 : decode cX11_tell 350 = .ok (.getfield 71, 3) := by decide +kernel
theorem dX11_tell_353 : decode cX11_tell 353 = .ok (.iload_n 1, 1) := by decide +kernel
theorem dX11_tell_354 : decode cX11_tell 354 = .ok (.dup2, 1) := by decide +kernel
theorem dX11_tell_355 : decode cX11_tell 355 = .ok (.iaload, 1) := by decide +kernel
theorem dX11_tell_356 : decode cX11_tell 356 = .ok (.aload_n 0, 1) := by decide +kernel
theorem dX11_tell_357 : decode cX11_tell 357 = .ok (.getfield 71, 3) := by decide +kernel
theorem dX11_tell_360 : decode cX11_tell 360 = .ok (.bipush 7, 2) := by decide +kernel
theorem dX11_tell_362 : decode cX11_tell 362 = .ok (.aload_n 0, 1) := by decide +kernel
theorem dX11_tell_363 : decode cX11_tell 363 = .ok (.getfield 237, 3) := by decide +kernel
theorem dX11_tell_366 : decode cX11_tell 366 = .ok (.imul, 1) := by decide +kernel
theorem dX11_tell_367 : decode cX11_tell 367 = .ok (.iload_n 3, 1) := by decide +kernel
theorem dX11_tell_368 : decode cX11_tell 368 = .ok (.iadd, 1) := by decide +kernel
theorem dX11_tell_369 : decode cX11_tell 369 = .ok (.iaload, 1) := by decide +kernel
theorem dX11_tell_370 : decode cX11_tell 370 = .ok (.ior, 1) := by decide +kernel
theorem dX11_tell_371 : decode cX11_tell 371 = .ok (.iastore, 1) := by decide +kernel
theorem dX11_tell_372 : decode cX11_tell 372 = .ok (.iinc 3 1, 3) := by decide +kernel
theorem dX11_tell_375 : decode cX11_tell 375 = .ok (.goto (-51), 3) := by decide +kernel
theorem dX11_tell_378 : decode cX11_tell 378 = .ok (.aload_n 0, 1) := by decide +kernel
theorem dX11_tell_379 : decode cX11_tell 379 = .ok (.getfield 40, 3) := by decide +kernel
theorem dX11_tell_382 : decode cX11_tell 382 = .ok (.aload_n 0, 1) := by decide +kernel
theorem dX11_tell_383 : decode cX11_tell 383 = .ok (.getfield 237, 3) := by decide +kernel
theorem dX11_tell_386 : decode cX11_tell 386 = .ok (.dup2, 1) := by decide +kernel
theorem dX11_tell_387 : decode cX11_tell 387 = .ok (.iaload, 1) := by decide +kernel
theorem dX11_tell_388 : decode cX11_tell 388 = .ok (.iconst 1, 1) := by decide +kernel
theorem dX11_tell_389 : decode cX11_tell 389 = .ok (.iadd, 1) := by decide +kernel
theorem dX11_tell_390 : decode cX11_tell 390 = .ok (.iastore, 1) := by decide +kernel
theorem dX11_tell_391 : decode cX11_tell 391 = .ok (.return_, 1) := by decide +kernel
theorem dX11_emit_0 : decode cX11_emit 0 = .ok (.aload_n 0, 1) := by decide +kernel
theorem dX11_emit_1 : decode cX11_emit 1 = .ok (.getfield 74, 3) := by decide +kernel
theorem dX11_emit_4 : decode cX11_emit 4 = .ok (.aload_n 0, 1) := by decide +kernel
theorem dX11_emit_5 : decode cX11_emit 5 = .ok (.getfield 240, 3) := by decide +kernel
theorem dX11_emit_8 : decode cX11_emit 8 = .ok (.iload_n 1, 1) := by decide +kernel
theorem dX11_emit_9 : decode cX11_emit 9 = .ok (.iastore, 1) := by decide +kernel
theorem dX11_emit_10 : decode cX11_emit 10 = .ok (.aload_n 0, 1) := by decide +kernel
theorem dX11_emit_11 : decode cX11_emit 11 = .ok (.getfield 77, 3) := by decide +kernel
theorem dX11_emit_14 : decode cX11_emit 14 = .ok (.aload_n 0, 1) := by decide +kernel
theorem dX11_emit_15 : decode cX11_emit 15 = .ok (.getfield 240, 3) := by decide +kernel
theorem dX11_emit_18 : decode cX11_emit 18 = .ok (.iload_n 2, 1) := by decide +kernel
theorem dX11_emit_19 : decode cX11_emit 19 = .ok (.iastore, 1) := by decide +kernel
theorem dX11_emit_20 : decode cX11_emit 20 = .ok (.aload_n 0, 1) := by decide +kernel
theorem dX11_emit_21 : decode cX11_emit 21 = .ok (.dup, 1) := by decide +kernel
theorem dX11_emit_22 : decode cX11_emit 22 = .ok (.getfield 240, 3) := by decide +kernel
theorem dX11_emit_25 : decode cX11_emit 25 = .ok (.iconst 1, 1) := by decide +kernel
theorem dX11_emit_26 : decode cX11_emit 26 = .ok (.iadd, 1) := by decide +kernel
theorem dX11_emit_27 : decode cX11_emit 27 = .ok (.putfield 240, 3) := by decide +kernel
theorem dX11_emit_30 : decode cX11_emit 30 = .ok (.return_, 1) := by decide +kernel
theorem dX11_named_0 : decode cX11_named 0 = .ok (.iconst 0, 1) := by decide +kernel
theorem dX11_named_1 : decode cX11_named 1 = .ok (.istore_n 2, 1) := by decide +kernel
theorem dX11_named_2 : decode cX11_named 2 = .ok (.iload_n 2, 1) := by decide +kernel
theorem dX11_named_3 : decode cX11_named 3 = .ok (.aload_n 0, 1) := by decide +kernel
theorem dX11_named_4 : decode cX11_named 4 = .ok (.getfield 40, 3) := by decide +kernel
theorem dX11_named_7 : decode cX11_named 7 = .ok (.aload_n 0, 1) := by decide +kernel
theorem dX11_named_8 : decode cX11_named 8 = .ok (.getfield 237, 3) := by decide +kernel
theorem dX11_named_11 : decode cX11_named 11 = .ok (.iaload, 1) := by decide +kernel
theorem dX11_named_12 : decode cX11_named 12 = .ok (.if_icmp .ge 75, 3) := by decide +kernel
theorem dX11_named_15 : decode cX11_named 15 = .ok (.aload_n 0, 1) := by decide +kernel
theorem dX11_named_16 : decode cX11_named 16 = .ok (.getfield 43, 3) := by decide +kernel
theorem dX11_named_19 : decode cX11_named 19 = .ok (.bipush 7, 2) := by decide +kernel
theorem dX11_named_21 : decode cX11_named 21 = .ok (.aload_n 0, 1) := by decide +kernel
theorem dX11_named_22 : decode cX11_named 22 = .ok (.getfield 237, 3) := by decide +kernel
theorem dX11_named_25 : decode cX11_named 25 = .ok (.imul, 1) := by decide +kernel
theorem dX11_named_26 : decode cX11_named 26 = .ok (.iload_n 2, 1) := by decide +kernel
theorem dX11_named_27 : decode cX11_named 27 = .ok (.iadd, 1) := by decide +kernel
theorem dX11_named_28 : decode cX11_named 28 = .ok (.laload, 1) := by decide +kernel
theorem dX11_named_29 : decode cX11_named 29 = .ok (.aload_n 0, 1) := by decide +kernel
theorem dX11_named_30 : decode cX11_named 30 = .ok (.getfield 30, 3) := by decide +kernel
theorem dX11_named_33 : decode cX11_named 33 = .ok (.iload_n 1, 1) := by decide +kernel
theorem dX11_named_34 : decode cX11_named 34 = .ok (.laload, 1) := by decide +kernel
theorem dX11_named_35 : decode cX11_named 35 = .ok (.lcmp, 1) := by decide +kernel
theorem dX11_named_36 : decode cX11_named 36 = .ok (.ifCond .eq 6, 3) := by decide +kernel
theorem dX11_named_39 : decode cX11_named 39 = .ok (.goto 42, 3) := by decide +kernel
theorem dX11_named_42 : decode cX11_named 42 = .ok (.aload_n 0, 1) := by decide +kernel
theorem dX11_named_43 : decode cX11_named 43 = .ok (.getfield 46, 3) := by decide +kernel
theorem dX11_named_46 : decode cX11_named 46 = .ok (.bipush 7, 2) := by decide +kernel
theorem dX11_named_48 : decode cX11_named 48 = .ok (.aload_n 0, 1) := by decide +kernel
theorem dX11_named_49 : decode cX11_named 49 = .ok (.getfield 237, 3) := by decide +kernel
theorem dX11_named_52 : decode cX11_named 52 = .ok (.imul, 1) := by decide +kernel
theorem dX11_named_53 : decode cX11_named 53 = .ok (.iload_n 2, 1) := by decide +kernel
theorem dX11_named_54 : decode cX11_named 54 = .ok (.iadd, 1) := by decide +kernel
theorem dX11_named_55 : decode cX11_named 55 = .ok (.baload, 1) := by decide +kernel
theorem dX11_named_56 : decode cX11_named 56 = .ok (.ifCond .eq 6, 3) := by decide +kernel
theorem dX11_named_59 : decode cX11_named 59 = .ok (.goto 28, 3) := by decide +kernel
theorem dX11_named_62 : decode cX11_named 62 = .ok (.aload_n 0, 1) := by decide +kernel
theorem dX11_named_63 : decode cX11_named 63 = .ok (.dup, 1) := by decide +kernel
theorem dX11_named_64 : decode cX11_named 64 = .ok (.getfield 260, 3) := by decide +kernel
theorem dX11_named_67 : decode cX11_named 67 = .ok (.iconst 1, 1) := by decide +kernel
theorem dX11_named_68 : decode cX11_named 68 = .ok (.iload_n 2, 1) := by decide +kernel
theorem dX11_named_69 : decode cX11_named 69 = .ok (.ishl, 1) := by decide +kernel
theorem dX11_named_70 : decode cX11_named 70 = .ok (.ior, 1) := by decide +kernel
theorem dX11_named_71 : decode cX11_named 71 = .ok (.putfield 260, 3) := by decide +kernel
theorem dX11_named_74 : decode cX11_named 74 = .ok (.aload_n 0, 1) := by decide +kernel
theorem dX11_named_75 : decode cX11_named 75 = .ok (.iconst 4, 1) := by decide +kernel
theorem dX11_named_76 : decode cX11_named 76 = .ok (.iload_n 2, 1) := by decide +kernel
theorem dX11_named_77 : decode cX11_named 77 = .ok (.invokevirtual 266, 3) := by decide +kernel
theorem dX11_named_80 : decode cX11_named 80 = .ok (.return_, 1) := by decide +kernel
theorem dX11_named_81 : decode cX11_named 81 = .ok (.iinc 2 1, 3) := by decide +kernel
theorem dX11_named_84 : decode cX11_named 84 = .ok (.goto (-82), 3) := by decide +kernel
theorem dX11_named_87 : decode cX11_named 87 = .ok (.aload_n 0, 1) := by decide +kernel
theorem dX11_named_88 : decode cX11_named 88 = .ok (.iconst 4, 1) := by decide +kernel
theorem dX11_named_89 : decode cX11_named 89 = .ok (.iload_n 1, 1) := by decide +kernel
theorem dX11_named_90 : decode cX11_named 90 = .ok (.invokevirtual 249, 3) := by decide +kernel
theorem dX11_named_93 : decode cX11_named 93 = .ok (.aload_n 0, 1) := by decide +kernel
theorem dX11_named_94 : decode cX11_named 94 = .ok (.iconst 0, 1) := by decide +kernel
theorem dX11_named_95 : decode cX11_named 95 = .ok (.iconst 0, 1) := by decide +kernel
theorem dX11_named_96 : decode cX11_named 96 = .ok (.invokevirtual 266, 3) := by decide +kernel
theorem dX11_named_99 : decode cX11_named 99 = .ok (.return_, 1) := by decide +kernel
theorem dX11_comesOut_0 : decode cX11_comesOut 0 = .ok (.aload_n 0, 1) := by decide +kernel
theorem dX11_comesOut_1 : decode cX11_comesOut 1 = .ok (.getfield 269, 3) := by decide +kernel
theorem dX11_comesOut_4 : decode cX11_comesOut 4 = .ok (.ifCond .le 106, 3) := by decide +kernel
theorem dX11_comesOut_7 : decode cX11_comesOut 7 = .ok (.aload_n 0, 1) := by decide +kernel
theorem dX11_comesOut_8 : decode cX11_comesOut 8 = .ok (.getfield 80, 3) := by decide +kernel
theorem dX11_comesOut_11 : decode cX11_comesOut 11 = .ok (.aload_n 0, 1) := by decide +kernel
theorem dX11_comesOut_12 : decode cX11_comesOut 12 = .ok (.getfield 269, 3) := by decide +kernel
theorem dX11_comesOut_15 : decode cX11_comesOut 15 = .ok (.iconst 1, 1) := by decide +kernel
theorem dX11_comesOut_16 : decode cX11_comesOut 16 = .ok (.isub, 1) := by decide +kernel
theorem dX11_comesOut_17 : decode cX11_comesOut 17 = .ok (.iaload, 1) := by decide +kernel
theorem dX11_comesOut_18 : decode cX11_comesOut 18 = .ok (.bipush 11, 2) := by decide +kernel
theorem dX11_comesOut_20 : decode cX11_comesOut 20 = .ok (.if_icmp .eq 39, 3) := by decide +kernel
theorem dX11_comesOut_23 : decode cX11_comesOut 23 = .ok (.iload_n 1, 1) := by decide +kernel
theorem dX11_comesOut_24 : decode cX11_comesOut 24 = .ok (.ifCond .ne 86, 3) := by decide +kernel
theorem dX11_comesOut_27 : decode cX11_comesOut 27 = .ok (.aload_n 0, 1) := by decide +kernel
theorem dX11_comesOut_28 : decode cX11_comesOut 28 = .ok (.getfield 80, 3) := by decide +kernel
theorem dX11_comesOut_31 : decode cX11_comesOut 31 = .ok (.aload_n 0, 1) := by decide +kernel
theorem dX11_comesOut_32 : decode cX11_comesOut 32 = .ok (.getfield 269, 3) := by decide +kernel
theorem dX11_comesOut_35 : decode cX11_comesOut 35 = .ok (.iconst 1, 1) := by decide +kernel
theorem dX11_comesOut_36 : decode cX11_comesOut 36 = .ok (.isub, 1) := by decide +kernel
theorem dX11_comesOut_37 : decode cX11_comesOut 37 = .ok (.iaload, 1) := by decide +kernel
theorem dX11_comesOut_38 : decode cX11_comesOut 38 = .ok (.bipush 9, 2) := by decide +kernel
theorem dX11_comesOut_40 : decode cX11_comesOut 40 = .ok (.if_icmp .eq 19, 3) := by decide +kernel
theorem dX11_comesOut_43 : decode cX11_comesOut 43 = .ok (.aload_n 0, 1) := by decide +kernel
theorem dX11_comesOut_44 : decode cX11_comesOut 44 = .ok (.getfield 80, 3) := by decide +kernel
theorem dX11_comesOut_47 : decode cX11_comesOut 47 = .ok (.aload_n 0, 1) := by decide +kernel
theorem dX11_comesOut_48 : decode cX11_comesOut 48 = .ok (.getfield 269, 3) := by decide +kernel
theorem dX11_comesOut_51 : decode cX11_comesOut 51 = .ok (.iconst 1, 1) := by decide +kernel
theorem dX11_comesOut_52 : decode cX11_comesOut 52 = .ok (.isub, 1) := by decide +kernel
theorem dX11_comesOut_53 : decode cX11_comesOut 53 = .ok (.iaload, 1) := by decide +kernel
theorem dX11_comesOut_54 : decode cX11_comesOut 54 = .ok (.bipush 10, 2) := by decide +kernel
theorem dX11_comesOut_56 : decode cX11_comesOut 56 = .ok (.if_icmp .ne 54, 3) := by decide +kernel
theorem dX11_comesOut_59 : decode cX11_comesOut 59 = .ok (.aload_n 0, 1) := by decide +kernel
theorem dX11_comesOut_60 : decode cX11_comesOut 60 = .ok (.dup, 1) := by decide +kernel
theorem dX11_comesOut_61 : decode cX11_comesOut 61 = .ok (.getfield 269, 3) := by decide +kernel
theorem dX11_comesOut_64 : decode cX11_comesOut 64 = .ok (.iconst 1, 1) := by decide +kernel
theorem dX11_comesOut_65 : decode cX11_comesOut 65 = .ok (.isub, 1) := by decide +kernel
theorem dX11_comesOut_66 : decode cX11_comesOut 66 = .ok (.putfield 269, 3) := by decide +kernel
theorem dX11_comesOut_69 : decode cX11_comesOut 69 = .ok (.aload_n 0, 1) := by decide +kernel
theorem dX11_comesOut_70 : decode cX11_comesOut 70 = .ok (.getfield 80, 3) := by decide +kernel
theorem dX11_comesOut_73 : decode cX11_comesOut 73 = .ok (.aload_n 0, 1) := by decide +kernel
theorem dX11_comesOut_74 : decode cX11_comesOut 74 = .ok (.getfield 269, 3) := by decide +kernel
theorem dX11_comesOut_77 : decode cX11_comesOut 77 = .ok (.iaload, 1) := by decide +kernel
theorem dX11_comesOut_78 : decode cX11_comesOut 78 = .ok (.istore_n 2, 1) := by decide +kernel
theorem dX11_comesOut_79 : decode cX11_comesOut 79 = .ok (.aload_n 0, 1) := by decide +kernel
theorem dX11_comesOut_80 : decode cX11_comesOut 80 = .ok (.iload_n 2, 1) := by decide +kernel
theorem dX11_comesOut_81 : decode cX11_comesOut 81 = .ok (.bipush 9, 2) := by decide +kernel
theorem dX11_comesOut_83 : decode cX11_comesOut 83 = .ok (.if_icmp .ne 7, 3) := by decide +kernel
theorem dX11_comesOut_86 : decode cX11_comesOut 86 = .ok (.iconst 5, 1) := by decide +kernel
theorem dX11_comesOut_87 : decode cX11_comesOut 87 = .ok (.goto 16, 3) := by decide +kernel
theorem dX11_comesOut_90 : decode cX11_comesOut 90 = .ok (.iload_n 2, 1) := by decide +kernel
theorem dX11_comesOut_91 : decode cX11_comesOut 91 = .ok (.bipush 10, 2) := by decide +kernel
theorem dX11_comesOut_93 : decode cX11_comesOut 93 = .ok (.if_icmp .ne 8, 3) := by decide +kernel
theorem dX11_comesOut_96 : decode cX11_comesOut 96 = .ok (.bipush 6, 2) := by decide +kernel
theorem dX11_comesOut_98 : decode cX11_comesOut 98 = .ok (.goto 5, 3) := by decide +kernel
theorem dX11_comesOut_101 : decode cX11_comesOut 101 = .ok (.bipush 7, 2) := by decide +kernel
theorem dX11_comesOut_103 : decode cX11_comesOut 103 = .ok (.iconst 0, 1) := by decide +kernel
theorem dX11_comesOut_104 : decode cX11_comesOut 104 = .ok (.invokevirtual 266, 3) := by decide +kernel
theorem dX11_comesOut_107 : decode cX11_comesOut 107 = .ok (.goto (-107), 3) := by decide +kernel
theorem dX11_comesOut_110 : decode cX11_comesOut 110 = .ok (.return_, 1) := by decide +kernel
theorem dX11_opens_0 : decode cX11_opens 0 = .ok (.aload_n 0, 1) := by decide +kernel
theorem dX11_opens_1 : decode cX11_opens 1 = .ok (.bipush 7, 2) := by decide +kernel
theorem dX11_opens_3 : decode cX11_opens 3 = .ok (.invokevirtual 222, 3) := by decide +kernel
theorem dX11_opens_6 : decode cX11_opens 6 = .ok (.ifCond .ne 11, 3) := by decide +kernel
theorem dX11_opens_9 : decode cX11_opens 9 = .ok (.aload_n 0, 1) := by decide +kernel
theorem dX11_opens_10 : decode cX11_opens 10 = .ok (.iconst 1, 1) := by decide +kernel
theorem dX11_opens_11 : decode cX11_opens 11 = .ok (.invokevirtual 219, 3) := by decide +kernel
theorem dX11_opens_14 : decode cX11_opens 14 = .ok (.goto 17, 3) := by decide +kernel
theorem dX11_opens_17 : decode cX11_opens 17 = .ok (.aload_n 0, 1) := by decide +kernel
theorem dX11_opens_18 : decode cX11_opens 18 = .ok (.getfield 231, 3) := by decide +kernel
theorem dX11_opens_21 : decode cX11_opens 21 = .ok (.bipush 6, 2) := by decide +kernel
theorem dX11_opens_23 : decode cX11_opens 23 = .ok (.if_icmp .ne 8, 3) := by decide +kernel
theorem dX11_opens_26 : decode cX11_opens 26 = .ok (.aload_n 0, 1) := by decide +kernel
theorem dX11_opens_27 : decode cX11_opens 27 = .ok (.iconst 2, 1) := by decide +kernel
theorem dX11_opens_28 : decode cX11_opens 28 = .ok (.invokevirtual 219, 3) := by decide +kernel
theorem dX11_opens_31 : decode cX11_opens 31 = .ok (.aload_n 0, 1) := by decide +kernel
theorem dX11_opens_32 : decode cX11_opens 32 = .ok (.getfield 204, 3) := by decide +kernel
theorem dX11_opens_35 : decode cX11_opens 35 = .ok (.ifCond .le 4, 3) := by decide +kernel
theorem dX11_opens_38 : decode cX11_opens 38 = .ok (.return_, 1) := by decide +kernel
theorem dX11_opens_39 : decode cX11_opens 39 = .ok (.aload_n 0, 1) := by decide +kernel
theorem dX11_opens_40 : decode cX11_opens 40 = .ok (.dup, 1) := by decide +kernel
theorem dX11_opens_41 : decode cX11_opens 41 = .ok (.getfield 231, 3) := by decide +kernel
theorem dX11_opens_44 : decode cX11_opens 44 = .ok (.iconst 1, 1) := by decide +kernel
theorem dX11_opens_45 : decode cX11_opens 45 = .ok (.iadd, 1) := by decide +kernel
theorem dX11_opens_46 : decode cX11_opens 46 = .ok (.putfield 231, 3) := by decide +kernel
theorem dX11_opens_49 : decode cX11_opens 49 = .ok (.aload_n 0, 1) := by decide +kernel
theorem dX11_opens_50 : decode cX11_opens 50 = .ok (.invokevirtual 225, 3) := by decide +kernel
theorem dX11_opens_53 : decode cX11_opens 53 = .ok (.iload_n 1, 1) := by decide +kernel
theorem dX11_opens_54 : decode cX11_opens 54 = .ok (.iconst (-1), 1) := by decide +kernel
theorem dX11_opens_55 : decode cX11_opens 55 = .ok (.if_icmp .ne 4, 3) := by decide +kernel
theorem dX11_opens_58 : decode cX11_opens 58 = .ok (.return_, 1) := by decide +kernel
theorem dX11_opens_59 : decode cX11_opens 59 = .ok (.aload_n 0, 1) := by decide +kernel
theorem dX11_opens_60 : decode cX11_opens 60 = .ok (.getfield 80, 3) := by decide +kernel
theorem dX11_opens_63 : decode cX11_opens 63 = .ok (.aload_n 0, 1) := by decide +kernel
theorem dX11_opens_64 : decode cX11_opens 64 = .ok (.getfield 269, 3) := by decide +kernel
theorem dX11_opens_67 : decode cX11_opens 67 = .ok (.iload_n 1, 1) := by decide +kernel
theorem dX11_opens_68 : decode cX11_opens 68 = .ok (.iastore, 1) := by decide +kernel
theorem dX11_opens_69 : decode cX11_opens 69 = .ok (.aload_n 0, 1) := by decide +kernel
theorem dX11_opens_70 : decode cX11_opens 70 = .ok (.dup, 1) := by decide +kernel
theorem dX11_opens_71 : decode cX11_opens 71 = .ok (.getfield 269, 3) := by decide +kernel
theorem dX11_opens_74 : decode cX11_opens 74 = .ok (.iconst 1, 1) := by decide +kernel
theorem dX11_opens_75 : decode cX11_opens 75 = .ok (.iadd, 1) := by decide +kernel
theorem dX11_opens_76 : decode cX11_opens 76 = .ok (.putfield 269, 3) := by decide +kernel
theorem dX11_opens_79 : decode cX11_opens 79 = .ok (.return_, 1) := by decide +kernel
theorem dX11_inner_0 : decode cX11_inner 0 = .ok (.aload_n 0, 1) := by decide +kernel
theorem dX11_inner_1 : decode cX11_inner 1 = .ok (.getfield 269, 3) := by decide +kernel
theorem dX11_inner_4 : decode cX11_inner 4 = .ok (.iconst 1, 1) := by decide +kernel
theorem dX11_inner_5 : decode cX11_inner 5 = .ok (.isub, 1) := by decide +kernel
theorem dX11_inner_6 : decode cX11_inner 6 = .ok (.istore_n 1, 1) := by decide +kernel
theorem dX11_inner_7 : decode cX11_inner 7 = .ok (.iload_n 1, 1) := by decide +kernel
theorem dX11_inner_8 : decode cX11_inner 8 = .ok (.ifCond .lt 38, 3) := by decide +kernel
theorem dX11_inner_11 : decode cX11_inner 11 = .ok (.aload_n 0, 1) := by decide +kernel
theorem dX11_inner_12 : decode cX11_inner 12 = .ok (.getfield 80, 3) := by decide +kernel
theorem dX11_inner_15 : decode cX11_inner 15 = .ok (.iload_n 1, 1) := by decide +kernel
theorem dX11_inner_16 : decode cX11_inner 16 = .ok (.iaload, 1) := by decide +kernel
theorem dX11_inner_17 : decode cX11_inner 17 = .ok (.bipush 7, 2) := by decide +kernel
theorem dX11_inner_19 : decode cX11_inner 19 = .ok (.if_icmp .eq 14, 3) := by decide +kernel
theorem dX11_inner_22 : decode cX11_inner 22 = .ok (.aload_n 0, 1) := by decide +kernel
theorem dX11_inner_23 : decode cX11_inner 23 = .ok (.getfield 80, 3) := by decide +kernel
theorem dX11_inner_26 : decode cX11_inner 26 = .ok (.iload_n 1, 1) := by decide +kernel
theorem dX11_inner_27 : decode cX11_inner 27 = .ok (.iaload, 1) := by decide +kernel
theorem dX11_inner_28 : decode cX11_inner 28 = .ok (.bipush 100, 2) := by decide +kernel
theorem dX11_inner_30 : decode cX11_inner 30 = .ok (.if_icmp .lt 10, 3) := by decide +kernel
theorem dX11_inner_33 : decode cX11_inner 33 = .ok (.aload_n 0, 1) := by decide +kernel
theorem dX11_inner_34 : decode cX11_inner 34 = .ok (.getfield 80, 3) := by decide +kernel
theorem dX11_inner_37 : decode cX11_inner 37 = .ok (.iload_n 1, 1) := by decide +kernel
theorem dX11_inner_38 : decode cX11_inner 38 = .ok (.iaload, 1) := by decide +kernel
theorem dX11_inner_39 : decode cX11_inner 39 = .ok (.ireturn, 1) := by decide +kernel
theorem dX11_inner_40 : decode cX11_inner 40 = .ok (.iinc 1 (-1), 3) := by decide +kernel
theorem dX11_inner_43 : decode cX11_inner 43 = .ok (.goto (-36), 3) := by decide +kernel
theorem dX11_inner_46 : decode cX11_inner 46 = .ok (.iconst (-1), 1) := by decide +kernel
theorem dX11_inner_47 : decode cX11_inner 47 = .ok (.ireturn, 1) := by decide +kernel
theorem dX11_ofTable_0 : decode cX11_ofTable 0 = .ok (.aload_n 0, 1) := by decide +kernel
theorem dX11_ofTable_1 : decode cX11_ofTable 1 = .ok (.getfield 20, 3) := by decide +kernel
theorem dX11_ofTable_4 : decode cX11_ofTable 4 = .ok (.aload_n 0, 1) := by decide +kernel
theorem dX11_ofTable_5 : decode cX11_ofTable 5 = .ok (.getfield 207, 3) := by decide +kernel
theorem dX11_ofTable_8 : decode cX11_ofTable 8 = .ok (.iaload, 1) := by decide +kernel
theorem dX11_ofTable_9 : decode cX11_ofTable 9 = .ok (.bipush 25, 2) := by decide +kernel
theorem dX11_ofTable_11 : decode cX11_ofTable 11 = .ok (.isub, 1) := by decide +kernel
theorem dX11_ofTable_12 : decode cX11_ofTable 12 = .ok (.iconst 1, 1) := by decide +kernel
theorem dX11_ofTable_13 : decode cX11_ofTable 13 = .ok (.iadd, 1) := by decide +kernel
theorem dX11_ofTable_14 : decode cX11_ofTable 14 = .ok (.istore_n 1, 1) := by decide +kernel
theorem dX11_ofTable_15 : decode cX11_ofTable 15 = .ok (.aload_n 0, 1) := by decide +kernel
theorem dX11_ofTable_16 : decode cX11_ofTable 16 = .ok (.invokevirtual 225, 3) := by decide +kernel
theorem dX11_ofTable_19 : decode cX11_ofTable 19 = .ok (.aload_n 0, 1) := by decide +kernel
theorem dX11_ofTable_20 : decode cX11_ofTable 20 = .ok (.iconst (-1), 1) := by decide +kernel
theorem dX11_ofTable_21 : decode cX11_ofTable 21 = .ok (.invokevirtual 272, 3) := by decide +kernel
theorem dX11_ofTable_24 : decode cX11_ofTable 24 = .ok (.aload_n 0, 1) := by decide +kernel
theorem dX11_ofTable_25 : decode cX11_ofTable 25 = .ok (.getfield 207, 3) := by decide +kernel
theorem dX11_ofTable_28 : decode cX11_ofTable 28 = .ok (.istore_n 2, 1) := by decide +kernel
theorem dX11_ofTable_29 : decode cX11_ofTable 29 = .ok (.aload_n 0, 1) := by decide +kernel
theorem dX11_ofTable_30 : decode cX11_ofTable 30 = .ok (.iconst 0, 1) := by decide +kernel
theorem dX11_ofTable_31 : decode cX11_ofTable 31 = .ok (.iconst 5, 1) := by decide +kernel
theorem dX11_ofTable_32 : decode cX11_ofTable 32 = .ok (.invokevirtual 253, 3) := by decide +kernel
theorem dX11_ofTable_35 : decode cX11_ofTable 35 = .ok (.istore_n 3, 1) := by decide +kernel
theorem dX11_ofTable_36 : decode cX11_ofTable 36 = .ok (.aload_n 0, 1) := by decide +kernel
theorem dX11_ofTable_37 : decode cX11_ofTable 37 = .ok (.getfield 204, 3) := by decide +kernel
theorem dX11_ofTable_40 : decode cX11_ofTable 40 = .ok (.ifCond .le 4, 3) := by decide +kernel
theorem dX11_ofTable_43 : decode cX11_ofTable 43 = .ok (.return_, 1) := by decide +kernel
theorem dX11_ofTable_44 : decode cX11_ofTable 44 = .ok (.aload_n 0, 1) := by decide +kernel
theorem dX11_ofTable_45 : decode cX11_ofTable 45 = .ok (.getfield 27, 3) := by decide +kernel
theorem dX11_ofTable_48 : decode cX11_ofTable 48 = .ok (.iload_n 2, 1) := by decide +kernel
theorem dX11_ofTable_49 : decode cX11_ofTable 49 = .ok (.iaload, 1) := by decide +kernel
theorem dX11_ofTable_50 : decode cX11_ofTable 50 = .ok (.iconst 5, 1) := by decide +kernel
theorem dX11_ofTable_51 : decode cX11_ofTable 51 = .ok (.if_icmp .gt 15, 3) := by decide +kernel
theorem dX11_ofTable_54 : decode cX11_ofTable 54 = .ok (.aload_n 0, 1) := by decide +kernel
theorem dX11_ofTable_55 : decode cX11_ofTable 55 = .ok (.dup, 1) := by decide +kernel
theorem dX11_ofTable_56 : decode cX11_ofTable 56 = .ok (.getfield 257, 3) := by decide +kernel
theorem dX11_ofTable_59 : decode cX11_ofTable 59 = .ok (.iconst 1, 1) := by decide +kernel
theorem dX11_ofTable_60 : decode cX11_ofTable 60 = .ok (.iload_n 3, 1) := by decide +kernel
theorem dX11_ofTable_61 : decode cX11_ofTable 61 = .ok (.ishl, 1) := by decide +kernel
theorem dX11_ofTable_62 : decode cX11_ofTable 62 = .ok (.ior, 1) := by decide +kernel
theorem dX11_ofTable_63 : decode cX11_ofTable 63 = .ok (.putfield 257, 3) := by decide +kernel
theorem dX11_ofTable_66 : decode cX11_ofTable 66 = .ok (.aload_n 0, 1) := by decide +kernel
theorem dX11_ofTable_67 : decode cX11_ofTable 67 = .ok (.iload_n 1, 1) := by decide +kernel
theorem dX11_ofTable_68 : decode cX11_ofTable 68 = .ok (.iload_n 3, 1) := by decide +kernel
theorem dX11_ofTable_69 : decode cX11_ofTable 69 = .ok (.invokevirtual 266, 3) := by decide +kernel
theorem dX11_ofTable_72 : decode cX11_ofTable 72 = .ok (.aload_n 0, 1) := by decide +kernel
theorem dX11_ofTable_73 : decode cX11_ofTable 73 = .ok (.bipush 8, 2) := by decide +kernel
theorem dX11_ofTable_75 : decode cX11_ofTable 75 = .ok (.invokevirtual 246, 3) := by decide +kernel
theorem dX11_ofTable_78 : decode cX11_ofTable 78 = .ok (.aload_n 0, 1) := by decide +kernel
theorem dX11_ofTable_79 : decode cX11_ofTable 79 = .ok (.dup, 1) := by decide +kernel
theorem dX11_ofTable_80 : decode cX11_ofTable 80 = .ok (.getfield 231, 3) := by decide +kernel
theorem dX11_ofTable_83 : decode cX11_ofTable 83 = .ok (.iconst 1, 1) := by decide +kernel
theorem dX11_ofTable_84 : decode cX11_ofTable 84 = .ok (.isub, 1) := by decide +kernel
theorem dX11_ofTable_85 : decode cX11_ofTable 85 = .ok (.putfield 231, 3) := by decide +kernel
theorem dX11_ofTable_88 : decode cX11_ofTable 88 = .ok (.return_, 1) := by decide +kernel
theorem dX11_expression_0 : decode cX11_expression 0 = .ok (.aload_n 0, 1) := by decide +kernel
theorem dX11_expression_1 : decode cX11_expression 1 = .ok (.iconst 0, 1) := by decide +kernel
theorem dX11_expression_2 : decode cX11_expression 2 = .ok (.putfield 269, 3) := by decide +kernel
theorem dX11_expression_5 : decode cX11_expression 5 = .ok (.iconst 1, 1) := by decide +kernel
theorem dX11_expression_6 : decode cX11_expression 6 = .ok (.istore_n 1, 1) := by decide +kernel
theorem dX11_expression_7 : decode cX11_expression 7 = .ok (.iload_n 1, 1) := by decide +kernel
theorem dX11_expression_8 : decode cX11_expression 8 = .ok (.ifCond .eq 380, 3) := by decide +kernel
theorem dX11_expression_11 : decode cX11_expression 11 = .ok (.aload_n 0, 1) := by decide +kernel
theorem dX11_expression_12 : decode cX11_expression 12 = .ok (.getfield 204, 3) := by decide +kernel
theorem dX11_expression_15 : decode cX11_expression 15 = .ok (.ifCond .ne 373, 3) := by decide +kernel
theorem dX11_expression_18 : decode cX11_expression 18 = .ok (.aload_n 0, 1) := by decide +kernel
theorem dX11_expression_19 : decode cX11_expression 19 = .ok (.bipush 7, 2) := by decide +kernel
theorem dX11_expression_21 : decode cX11_expression 21 = .ok (.invokevirtual 222, 3) := by decide +kernel
theorem dX11_expression_24 : decode cX11_expression 24 = .ok (.ifCond .eq 12, 3) := by decide +kernel
theorem dX11_expression_27 : decode cX11_expression 27 = .ok (.aload_n 0, 1) := by decide +kernel
theorem dX11_expression_28 : decode cX11_expression 28 = .ok (.bipush 7, 2) := by decide +kernel
theorem dX11_expression_30 : decode cX11_expression 30 = .ok (.invokevirtual 272, 3) := by decide +kernel
theorem dX11_expression_33 : decode cX11_expression 33 = .ok (.goto (-26), 3) := by decide +kernel
theorem dX11_expression_36 : decode cX11_expression 36 = .ok (.aload_n 0, 1) := by decide +kernel
theorem dX11_expression_37 : decode cX11_expression 37 = .ok (.bipush 28, 2) := by decide +kernel
theorem dX11_expression_39 : decode cX11_expression 39 = .ok (.invokevirtual 222, 3) := by decide +kernel
theorem dX11_expression_42 : decode cX11_expression 42 = .ok (.ifCond .eq 16, 3) := by decide +kernel
theorem dX11_expression_45 : decode cX11_expression 45 = .ok (.aload_n 0, 1) := by decide +kernel
theorem dX11_expression_46 : decode cX11_expression 46 = .ok (.invokevirtual 225, 3) := by decide +kernel
theorem dX11_expression_49 : decode cX11_expression 49 = .ok (.aload_n 0, 1) := by decide +kernel
theorem dX11_expression_50 : decode cX11_expression 50 = .ok (.bipush 100, 2) := by decide +kernel
theorem dX11_expression_52 : decode cX11_expression 52 = .ok (.invokevirtual 272, 3) := by decide +kernel
theorem dX11_expression_55 : decode cX11_expression 55 = .ok (.goto (-48), 3) := by decide +kernel
theorem dX11_expression_58 : decode cX11_expression 58 = .ok (.aload_n 0, 1) := by decide +kernel
theorem dX11_expression_59 : decode cX11_expression 59 = .ok (.bipush 25, 2) := by decide +kernel
theorem dX11_expression_61 : decode cX11_expression 61 = .ok (.invokevirtual 222, 3) := by decide +kernel
theorem dX11_expression_64 : decode cX11_expression 64 = .ok (.ifCond .ne 21, 3) := by decide +kernel
theorem dX11_expression_67 : decode cX11_expression 67 = .ok (.aload_n 0, 1) := by decide +kernel
theorem dX11_expression_68 : decode cX11_expression 68 = .ok (.bipush 26, 2) := by decide +kernel
theorem dX11_expression_70 : decode cX11_expression 70 = .ok (.invokevirtual 222, 3) := by decide +kernel
theorem dX11_expression_73 : decode cX11_expression 73 = .ok (.ifCond .ne 12, 3) := by decide +kernel
theorem dX11_expression_76 : decode cX11_expression 76 = .ok (.aload_n 0, 1) := by decide +kernel
theorem dX11_expression_77 : decode cX11_expression 77 = .ok (.bipush 27, 2) := by decide +kernel
theorem dX11_expression_79 : decode cX11_expression 79 = .ok (.invokevirtual 222, 3) := by decide +kernel
theorem dX11_expression_82 : decode cX11_expression 82 = .ok (.ifCond .eq 10, 3) := by decide +kernel
theorem dX11_expression_85 : decode cX11_expression 85 = .ok (.aload_n 0, 1) := by decide +kernel
theorem dX11_expression_86 : decode cX11_expression 86 = .ok (.invokevirtual 275, 3) := by decide +kernel
theorem dX11_expression_89 : decode cX11_expression 89 = .ok (.goto 69, 3) := by decide +kernel
theorem dX11_expression_92 : decode cX11_expression 92 = .ok (.aload_n 0, 1) := by decide +kernel
theorem dX11_expression_93 : decode cX11_expression 93 = .ok (.iconst 2, 1) := by decide +kernel
theorem dX11_expression_94 : decode cX11_expression 94 = .ok (.invokevirtual 222, 3) := by decide +kernel
theorem dX11_expression_97 : decode cX11_expression 97 = .ok (.ifCond .ne 16, 3) := by decide +kernel
theorem dX11_expression_100 : decode cX11_expression 100 = .ok (.aload_n 0, 1) := by decide +kernel
theorem dX11_expression_101 : decode cX11_expression 101 = .ok (.iconst 1, 1) := by decide +kernel
theorem dX11_expression_102 : decode cX11_expression 102 = .ok (.invokevirtual 222, 3) := by decide +kernel
theorem dX11_expression_105 : decode cX11_expression 105 = .ok (.ifCond .ne 8, 3) := by decide +kernel
theorem dX11_expression_108 : decode cX11_expression 108 = .ok (.aload_n 0, 1) := by decide +kernel
theorem dX11_expression_109 : decode cX11_expression 109 = .ok (.iconst 1, 1) := by decide +kernel
theorem dX11_expression_110 : decode cX11_expression 110 = .ok (.invokevirtual 219, 3) := by decide +kernel
theorem dX11_expression_113 : decode cX11_expression 113 = .ok (.aload_n 0, 1) := by decide +kernel
theorem dX11_expression_114 : decode cX11_expression 114 = .ok (.getfield 204, 3) := by decide +kernel
theorem dX11_expression_117 : decode cX11_expression 117 = .ok (.ifCond .le 4, 3) := by decide +kernel
theorem dX11_expression_120 : decode cX11_expression 120 = .ok (.return_, 1) := by decide +kernel
theorem dX11_expression_121 : decode cX11_expression 121 = .ok (.aload_n 0, 1) := by decide +kernel
theorem dX11_expression_122 : decode cX11_expression 122 = .ok (.iconst 2, 1) := by decide +kernel
theorem dX11_expression_123 : decode cX11_expression 123 = .ok (.invokevirtual 222, 3) := by decide +kernel
theorem dX11_expression_126 : decode cX11_expression 126 = .ok (.ifCond .eq 20, 3) := by decide +kernel
theorem dX11_expression_129 : decode cX11_expression 129 = .ok (.aload_n 0, 1) := by decide +kernel
theorem dX11_expression_130 : decode cX11_expression 130 = .ok (.iconst 0, 1) := by decide +kernel
theorem dX11_expression_131 : decode cX11_expression 131 = .ok (.aload_n 0, 1) := by decide +kernel
theorem dX11_expression_132 : decode cX11_expression 132 = .ok (.getfield 27, 3) := by decide +kernel
theorem dX11_expression_135 : decode cX11_expression 135 = .ok (.aload_n 0, 1) := by decide +kernel
theorem dX11_expression_136 : decode cX11_expression 136 = .ok (.getfield 207, 3) := by decide +kernel
theorem dX11_expression_139 : decode cX11_expression 139 = .ok (.iaload, 1) := by decide +kernel
theorem dX11_expression_140 : decode cX11_expression 140 = .ok (.invokevirtual 266, 3) := by decide +kernel
theorem dX11_expression_143 : decode cX11_expression 143 = .ok (.goto 11, 3) := by decide +kernel
theorem dX11_expression_146 : decode cX11_expression 146 = .ok (.aload_n 0, 1) := by decide +kernel
theorem dX11_expression_147 : decode cX11_expression 147 = .ok (.aload_n 0, 1) := by decide +kernel
theorem dX11_expression_148 : decode cX11_expression 148 = .ok (.getfield 207, 3) := by decide +kernel
theorem dX11_expression_151 : decode cX11_expression 151 = .ok (.invokevirtual 278, 3) := by decide +kernel
theorem dX11_expression_154 : decode cX11_expression 154 = .ok (.aload_n 0, 1) := by decide +kernel
theorem dX11_expression_155 : decode cX11_expression 155 = .ok (.invokevirtual 225, 3) := by decide +kernel
theorem dX11_expression_158 : decode cX11_expression 158 = .ok (.aload_n 0, 1) := by decide +kernel
theorem dX11_expression_159 : decode cX11_expression 159 = .ok (.bipush 8, 2) := by decide +kernel
theorem dX11_expression_161 : decode cX11_expression 161 = .ok (.invokevirtual 222, 3) := by decide +kernel
theorem dX11_expression_164 : decode cX11_expression 164 = .ok (.ifCond .eq 74, 3) := by decide +kernel
theorem dX11_expression_167 : decode cX11_expression 167 = .ok (.aload_n 0, 1) := by decide +kernel
theorem dX11_expression_168 : decode cX11_expression 168 = .ok (.invokevirtual 281, 3) := by decide +kernel
theorem dX11_expression_171 : decode cX11_expression 171 = .ok (.bipush 7, 2) := by decide +kernel
theorem dX11_expression_173 : decode cX11_expression 173 = .ok (.if_icmp .eq 12, 3) := by decide +kernel
theorem dX11_expression_176 : decode cX11_expression 176 = .ok (.aload_n 0, 1) := by decide +kernel
theorem dX11_expression_177 : decode cX11_expression 177 = .ok (.invokevirtual 281, 3) := by decide +kernel
theorem dX11_expression_180 : decode cX11_expression 180 = .ok (.bipush 102, 2) := by decide +kernel
theorem dX11_expression_182 : decode cX11_expression 182 = .ok (.if_icmp .ne 56, 3) := by decide +kernel
theorem dX11_expression_185 : decode cX11_expression 185 = .ok (.aload_n 0, 1) := by decide +kernel
theorem dX11_expression_186 : decode cX11_expression 186 = .ok (.iconst 0, 1) := by decide +kernel
theorem dX11_expression_187 : decode cX11_expression 187 = .ok (.invokevirtual 285, 3) := by decide +kernel
theorem dX11_expression_190 : decode cX11_expression 190 = .ok (.aload_n 0, 1) := by decide +kernel
theorem dX11_expression_191 : decode cX11_expression 191 = .ok (.dup, 1) := by decide +kernel
theorem dX11_expression_192 : decode cX11_expression 192 = .ok (.getfield 269, 3) := by decide +kernel
theorem dX11_expression_195 : decode cX11_expression 195 = .ok (.iconst 1, 1) := by decide +kernel
theorem dX11_expression_196 : decode cX11_expression 196 = .ok (.isub, 1) := by decide +kernel
theorem dX11_expression_197 : decode cX11_expression 197 = .ok (.putfield 269, 3) := by decide +kernel
theorem dX11_expression_200 : decode cX11_expression 200 = .ok (.aload_n 0, 1) := by decide +kernel
theorem dX11_expression_201 : decode cX11_expression 201 = .ok (.getfield 80, 3) := by decide +kernel
theorem dX11_expression_204 : decode cX11_expression 204 = .ok (.aload_n 0, 1) := by decide +kernel
theorem dX11_expression_205 : decode cX11_expression 205 = .ok (.getfield 269, 3) := by decide +kernel
theorem dX11_expression_208 : decode cX11_expression 208 = .ok (.iaload, 1) := by decide +kernel
theorem dX11_expression_209 : decode cX11_expression 209 = .ok (.bipush 102, 2) := by decide +kernel
theorem dX11_expression_211 : decode cX11_expression 211 = .ok (.if_icmp .ne 10, 3) := by decide +kernel
theorem dX11_expression_214 : decode cX11_expression 214 = .ok (.aload_n 0, 1) := by decide +kernel
theorem dX11_expression_215 : decode cX11_expression 215 = .ok (.bipush 8, 2) := by decide +kernel
theorem dX11_expression_217 : decode cX11_expression 217 = .ok (.iconst 0, 1) := by decide +kernel
theorem dX11_expression_218 : decode cX11_expression 218 = .ok (.invokevirtual 266, 3) := by decide +kernel
theorem dX11_expression_221 : decode cX11_expression 221 = .ok (.aload_n 0, 1) := by decide +kernel
theorem dX11_expression_222 : decode cX11_expression 222 = .ok (.dup, 1) := by decide +kernel
theorem dX11_expression_223 : decode cX11_expression 223 = .ok (.getfield 231, 3) := by decide +kernel
theorem dX11_expression_226 : decode cX11_expression 226 = .ok (.iconst 1, 1) := by decide +kernel
theorem dX11_expression_227 : decode cX11_expression 227 = .ok (.isub, 1) := by decide +kernel
theorem dX11_expression_228 : decode cX11_expression 228 = .ok (.putfield 231, 3) := by decide +kernel
theorem dX11_expression_231 : decode cX11_expression 231 = .ok (.aload_n 0, 1) := by decide +kernel
theorem dX11_expression_232 : decode cX11_expression 232 = .ok (.invokevirtual 225, 3) := by decide +kernel
theorem dX11_expression_235 : decode cX11_expression 235 = .ok (.goto (-77), 3) := by decide +kernel
theorem dX11_expression_238 : decode cX11_expression 238 = .ok (.aload_n 0, 1) := by decide +kernel
theorem dX11_expression_239 : decode cX11_expression 239 = .ok (.iconst 5, 1) := by decide +kernel
theorem dX11_expression_240 : decode cX11_expression 240 = .ok (.invokevirtual 222, 3) := by decide +kernel
theorem dX11_expression_243 : decode cX11_expression 243 = .ok (.ifCond .eq 37, 3) := by decide +kernel
theorem dX11_expression_246 : decode cX11_expression 246 = .ok (.aload_n 0, 1) := by decide +kernel
theorem dX11_expression_247 : decode cX11_expression 247 = .ok (.invokevirtual 281, 3) := by decide +kernel
theorem dX11_expression_250 : decode cX11_expression 250 = .ok (.bipush 100, 2) := by decide +kernel
theorem dX11_expression_252 : decode cX11_expression 252 = .ok (.if_icmp .ne 28, 3) := by decide +kernel
theorem dX11_expression_255 : decode cX11_expression 255 = .ok (.aload_n 0, 1) := by decide +kernel
theorem dX11_expression_256 : decode cX11_expression 256 = .ok (.iconst 0, 1) := by decide +kernel
theorem dX11_expression_257 : decode cX11_expression 257 = .ok (.invokevirtual 285, 3) := by decide +kernel
theorem dX11_expression_260 : decode cX11_expression 260 = .ok (.aload_n 0, 1) := by decide +kernel
theorem dX11_expression_261 : decode cX11_expression 261 = .ok (.getfield 80, 3) := by decide +kernel
theorem dX11_expression_264 : decode cX11_expression 264 = .ok (.aload_n 0, 1) := by decide +kernel
theorem dX11_expression_265 : decode cX11_expression 265 = .ok (.getfield 269, 3) := by decide +kernel
theorem dX11_expression_268 : decode cX11_expression 268 = .ok (.iconst 1, 1) := by decide +kernel
theorem dX11_expression_269 : decode cX11_expression 269 = .ok (.isub, 1) := by decide +kernel
theorem dX11_expression_270 : decode cX11_expression 270 = .ok (.bipush 102, 2) := by decide +kernel
theorem dX11_expression_272 : decode cX11_expression 272 = .ok (.iastore, 1) := by decide +kernel
theorem dX11_expression_273 : decode cX11_expression 273 = .ok (.aload_n 0, 1) := by decide +kernel
theorem dX11_expression_274 : decode cX11_expression 274 = .ok (.invokevirtual 225, 3) := by decide +kernel
theorem dX11_expression_277 : decode cX11_expression 277 = .ok (.goto (-270), 3) := by decide +kernel
theorem dX11_expression_280 : decode cX11_expression 280 = .ok (.aload_n 0, 1) := by decide +kernel
theorem dX11_expression_281 : decode cX11_expression 281 = .ok (.bipush 9, 2) := by decide +kernel
theorem dX11_expression_283 : decode cX11_expression 283 = .ok (.invokevirtual 222, 3) := by decide +kernel
theorem dX11_expression_286 : decode cX11_expression 286 = .ok (.ifCond .ne 21, 3) := by decide +kernel
theorem dX11_expression_289 : decode cX11_expression 289 = .ok (.aload_n 0, 1) := by decide +kernel
theorem dX11_expression_290 : decode cX11_expression 290 = .ok (.bipush 10, 2) := by decide +kernel
theorem dX11_expression_292 : decode cX11_expression 292 = .ok (.invokevirtual 222, 3) := by decide +kernel
theorem dX11_expression_295 : decode cX11_expression 295 = .ok (.ifCond .ne 12, 3) := by decide +kernel
theorem dX11_expression_298 : decode cX11_expression 298 = .ok (.aload_n 0, 1) := by decide +kernel
theorem dX11_expression_299 : decode cX11_expression 299 = .ok (.bipush 11, 2) := by decide +kernel
theorem dX11_expression_301 : decode cX11_expression 301 = .ok (.invokevirtual 222, 3) := by decide +kernel
theorem dX11_expression_304 : decode cX11_expression 304 = .ok (.ifCond .eq 7, 3) := by decide +kernel
theorem dX11_expression_307 : decode cX11_expression 307 = .ok (.iconst 1, 1) := by decide +kernel
theorem dX11_expression_308 : decode cX11_expression 308 = .ok (.goto 4, 3) := by decide +kernel
theorem dX11_expression_311 : decode cX11_expression 311 = .ok (.iconst 0, 1) := by decide +kernel
theorem dX11_expression_312 : decode cX11_expression 312 = .ok (.istore_n 1, 1) := by decide +kernel
theorem dX11_expression_313 : decode cX11_expression 313 = .ok (.iload_n 1, 1) := by decide +kernel
theorem dX11_expression_314 : decode cX11_expression 314 = .ok (.ifCond .ne 22, 3) := by decide +kernel
theorem dX11_expression_317 : decode cX11_expression 317 = .ok (.aload_n 0, 1) := by decide +kernel
theorem dX11_expression_318 : decode cX11_expression 318 = .ok (.invokevirtual 281, 3) := by decide +kernel
theorem dX11_expression_321 : decode cX11_expression 321 = .ok (.iconst (-1), 1) := by decide +kernel
theorem dX11_expression_322 : decode cX11_expression 322 = .ok (.if_icmp .eq 8, 3) := by decide +kernel
theorem dX11_expression_325 : decode cX11_expression 325 = .ok (.aload_n 0, 1) := by decide +kernel
theorem dX11_expression_326 : decode cX11_expression 326 = .ok (.iconst 1, 1) := by decide +kernel
theorem dX11_expression_327 : decode cX11_expression 327 = .ok (.invokevirtual 219, 3) := by decide +kernel
theorem dX11_expression_330 : decode cX11_expression 330 = .ok (.aload_n 0, 1) := by decide +kernel
theorem dX11_expression_331 : decode cX11_expression 331 = .ok (.iconst 0, 1) := by decide +kernel
theorem dX11_expression_332 : decode cX11_expression 332 = .ok (.invokevirtual 285, 3) := by decide +kernel
theorem dX11_expression_335 : decode cX11_expression 335 = .ok (.return_, 1) := by decide +kernel
theorem dX11_expression_336 : decode cX11_expression 336 = .ok (.aload_n 0, 1) := by decide +kernel
theorem dX11_expression_337 : decode cX11_expression 337 = .ok (.getfield 20, 3) := by decide +kernel
theorem dX11_expression_340 : decode cX11_expression 340 = .ok (.aload_n 0, 1) := by decide +kernel
theorem dX11_expression_341 : decode cX11_expression 341 = .ok (.getfield 207, 3) := by decide +kernel
theorem dX11_expression_344 : decode cX11_expression 344 = .ok (.iaload, 1) := by decide +kernel
theorem dX11_expression_345 : decode cX11_expression 345 = .ok (.istore_n 2, 1) := by decide +kernel
theorem dX11_expression_346 : decode cX11_expression 346 = .ok (.aload_n 0, 1) := by decide +kernel
theorem dX11_expression_347 : decode cX11_expression 347 = .ok (.iload_n 2, 1) := by decide +kernel
theorem dX11_expression_348 : decode cX11_expression 348 = .ok (.bipush 11, 2) := by decide +kernel
theorem dX11_expression_350 : decode cX11_expression 350 = .ok (.if_icmp .ne 7, 3) := by decide +kernel
theorem dX11_expression_353 : decode cX11_expression 353 = .ok (.iconst 1, 1) := by decide +kernel
theorem dX11_expression_354 : decode cX11_expression 354 = .ok (.goto 4, 3) := by decide +kernel
theorem dX11_expression_357 : decode cX11_expression 357 = .ok (.iconst 0, 1) := by decide +kernel
theorem dX11_expression_358 : decode cX11_expression 358 = .ok (.invokevirtual 285, 3) := by decide +kernel
theorem dX11_expression_361 : decode cX11_expression 361 = .ok (.aload_n 0, 1) := by decide +kernel
theorem dX11_expression_362 : decode cX11_expression 362 = .ok (.getfield 80, 3) := by decide +kernel
theorem dX11_expression_365 : decode cX11_expression 365 = .ok (.aload_n 0, 1) := by decide +kernel
theorem dX11_expression_366 : decode cX11_expression 366 = .ok (.getfield 269, 3) := by decide +kernel
theorem dX11_expression_369 : decode cX11_expression 369 = .ok (.iload_n 2, 1) := by decide +kernel
theorem dX11_expression_370 : decode cX11_expression 370 = .ok (.iastore, 1) := by decide +kernel
theorem dX11_expression_371 : decode cX11_expression 371 = .ok (.aload_n 0, 1) := by decide +kernel
theorem dX11_expression_372 : decode cX11_expression 372 = .ok (.dup, 1) := by decide +kernel
theorem dX11_expression_373 : decode cX11_expression 373 = .ok (.getfield 269, 3) := by decide +kernel
theorem dX11_expression_376 : decode cX11_expression 376 = .ok (.iconst 1, 1) := by decide +kernel
theorem dX11_expression_377 : decode cX11_expression 377 = .ok (.iadd, 1) := by decide +kernel
theorem dX11_expression_378 : decode cX11_expression 378 = .ok (.putfield 269, 3) := by decide +kernel
theorem dX11_expression_381 : decode cX11_expression 381 = .ok (.aload_n 0, 1) := by decide +kernel
theorem dX11_expression_382 : decode cX11_expression 382 = .ok (.invokevirtual 225, 3) := by decide +kernel
theorem dX11_expression_385 : decode cX11_expression 385 = .ok (.goto (-378), 3) := by decide +kernel
theorem dX11_expression_388 : decode cX11_expression 388 = .ok (.return_, 1) := by decide +kernel
theorem dX11_isTable_0 : decode cX11_isTable 0 = .ok (.iload_n 0, 1) := by decide +kernel
theorem dX11_isTable_1 : decode cX11_isTable 1 = .ok (.ifCond .lt 13, 3) := by decide +kernel
theorem dX11_isTable_4 : decode cX11_isTable 4 = .ok (.iload_n 0, 1) := by decide +kernel
theorem dX11_isTable_5 : decode cX11_isTable 5 = .ok (.bipush 6, 2) := by decide +kernel
theorem dX11_isTable_7 : decode cX11_isTable 7 = .ok (.if_icmp .ge 7, 3) := by decide +kernel
theorem dX11_isTable_10 : decode cX11_isTable 10 = .ok (.iconst 1, 1) := by decide +kernel
theorem dX11_isTable_11 : decode cX11_isTable 11 = .ok (.goto 4, 3) := by decide +kernel
theorem dX11_isTable_14 : decode cX11_isTable 14 = .ok (.iconst 0, 1) := by decide +kernel
theorem dX11_isTable_15 : decode cX11_isTable 15 = .ok (.ireturn, 1) := by decide +kernel
theorem dX11_isReader_0 : decode cX11_isReader 0 = .ok (.iload_n 1, 1) := by decide +kernel
theorem dX11_isReader_1 : decode cX11_isReader 1 = .ok (.ifCond .lt 15, 3) := by decide +kernel
theorem dX11_isReader_4 : decode cX11_isReader 4 = .ok (.iload_n 1, 1) := by decide +kernel
theorem dX11_isReader_5 : decode cX11_isReader 5 = .ok (.aload_n 0, 1) := by decide +kernel
theorem dX11_isReader_6 : decode cX11_isReader 6 = .ok (.getfield 289, 3) := by decide +kernel
theorem dX11_isReader_9 : decode cX11_isReader 9 = .ok (.if_icmp .ge 7, 3) := by decide +kernel
theorem dX11_isReader_12 : decode cX11_isReader 12 = .ok (.iconst 1, 1) := by decide +kernel
theorem dX11_isReader_13 : decode cX11_isReader 13 = .ok (.goto 4, 3) := by decide +kernel
theorem dX11_isReader_16 : decode cX11_isReader 16 = .ok (.iconst 0, 1) := by decide +kernel
theorem dX11_isReader_17 : decode cX11_isReader 17 = .ok (.ireturn, 1) := by decide +kernel
theorem dX11_isStep_0 : decode cX11_isStep 0 = .ok (.iload_n 1, 1) := by decide +kernel
theorem dX11_isStep_1 : decode cX11_isStep 1 = .ok (.ifCond .lt 20, 3) := by decide +kernel
theorem dX11_isStep_4 : decode cX11_isStep 4 = .ok (.iload_n 1, 1) := by decide +kernel
theorem dX11_isStep_5 : decode cX11_isStep 5 = .ok (.aload_n 0, 1) := by decide +kernel
theorem dX11_isStep_6 : decode cX11_isStep 6 = .ok (.getfield 40, 3) := by decide +kernel
theorem dX11_isStep_9 : decode cX11_isStep 9 = .ok (.aload_n 0, 1) := by decide +kernel
theorem dX11_isStep_10 : decode cX11_isStep 10 = .ok (.getfield 234, 3) := by decide +kernel
theorem dX11_isStep_13 : decode cX11_isStep 13 = .ok (.iaload, 1) := by decide +kernel
theorem dX11_isStep_14 : decode cX11_isStep 14 = .ok (.if_icmp .ge 7, 3) := by decide +kernel
theorem dX11_isStep_17 : decode cX11_isStep 17 = .ok (.iconst 1, 1) := by decide +kernel
theorem dX11_isStep_18 : decode cX11_isStep 18 = .ok (.goto 4, 3) := by decide +kernel
theorem dX11_isStep_21 : decode cX11_isStep 21 = .ok (.iconst 0, 1) := by decide +kernel
theorem dX11_isStep_22 : decode cX11_isStep 22 = .ok (.ireturn, 1) := by decide +kernel
theorem dX11_span_0 : decode cX11_span 0 = .ok (.iload_n 1, 1) := by decide +kernel
theorem dX11_span_1 : decode cX11_span 1 = .ok (.invokestatic 292, 3) := by decide +kernel
theorem dX11_span_4 : decode cX11_span 4 = .ok (.ifCond .eq 19, 3) := by decide +kernel
theorem dX11_span_7 : decode cX11_span 7 = .ok (.iload_n 2, 1) := by decide +kernel
theorem dX11_span_8 : decode cX11_span 8 = .ok (.ifCond .lt 15, 3) := by decide +kernel
theorem dX11_span_11 : decode cX11_span 11 = .ok (.iload_n 2, 1) := by decide +kernel
theorem dX11_span_12 : decode cX11_span 12 = .ok (.iload_n 3, 1) := by decide +kernel
theorem dX11_span_13 : decode cX11_span 13 = .ok (.if_icmp .gt 10, 3) := by decide +kernel
theorem dX11_span_16 : decode cX11_span 16 = .ok (.iload_n 3, 1) := by decide +kernel
theorem dX11_span_17 : decode cX11_span 17 = .ok (.sipush 399, 3) := by decide +kernel
theorem dX11_span_20 : decode cX11_span 20 = .ok (.if_icmp .le 5, 3) := by decide +kernel
theorem dX11_span_23 : decode cX11_span 23 = .ok (.iconst 0, 1) := by decide +kernel
theorem dX11_span_24 : decode cX11_span 24 = .ok (.ireturn, 1) := by decide +kernel
theorem dX11_span_25 : decode cX11_span 25 = .ok (.aload_n 0, 1) := by decide +kernel
theorem dX11_span_26 : decode cX11_span 26 = .ok (.getfield 83, 3) := by decide +kernel
theorem dX11_span_29 : decode cX11_span 29 = .ok (.iload_n 1, 1) := by decide +kernel
theorem dX11_span_30 : decode cX11_span 30 = .ok (.iload_n 2, 1) := by decide +kernel
theorem dX11_span_31 : decode cX11_span 31 = .ok (.iastore, 1) := by decide +kernel
theorem dX11_span_32 : decode cX11_span 32 = .ok (.aload_n 0, 1) := by decide +kernel
theorem dX11_span_33 : decode cX11_span 33 = .ok (.getfield 86, 3) := by decide +kernel
theorem dX11_span_36 : decode cX11_span 36 = .ok (.iload_n 1, 1) := by decide +kernel
theorem dX11_span_37 : decode cX11_span 37 = .ok (.iload_n 3, 1) := by decide +kernel
theorem dX11_span_38 : decode cX11_span 38 = .ok (.iastore, 1) := by decide +kernel
theorem dX11_span_39 : decode cX11_span 39 = .ok (.iconst 1, 1) := by decide +kernel
theorem dX11_span_40 : decode cX11_span 40 = .ok (.ireturn, 1) := by decide +kernel
theorem dX11_row_0 : decode cX11_row 0 = .ok (.iload_n 1, 1) := by decide +kernel
theorem dX11_row_1 : decode cX11_row 1 = .ok (.invokestatic 292, 3) := by decide +kernel
theorem dX11_row_4 : decode cX11_row 4 = .ok (.ifCond .eq 24, 3) := by decide +kernel
theorem dX11_row_7 : decode cX11_row 7 = .ok (.iload_n 2, 1) := by decide +kernel
theorem dX11_row_8 : decode cX11_row 8 = .ok (.ifCond .lt 20, 3) := by decide +kernel
theorem dX11_row_11 : decode cX11_row 11 = .ok (.iload_n 2, 1) := by decide +kernel
theorem dX11_row_12 : decode cX11_row 12 = .ok (.bipush 7, 2) := by decide +kernel
theorem dX11_row_14 : decode cX11_row 14 = .ok (.if_icmp .gt 14, 3) := by decide +kernel
theorem dX11_row_17 : decode cX11_row 17 = .ok (.aload_n 0, 1) := by decide +kernel
theorem dX11_row_18 : decode cX11_row 18 = .ok (.getfield 92, 3) := by decide +kernel
theorem dX11_row_21 : decode cX11_row 21 = .ok (.iload_n 1, 1) := by decide +kernel
theorem dX11_row_22 : decode cX11_row 22 = .ok (.iaload, 1) := by decide +kernel
theorem dX11_row_23 : decode cX11_row 23 = .ok (.bipush 40, 2) := by decide +kernel
theorem dX11_row_25 : decode cX11_row 25 = .ok (.if_icmp .ne 5, 3) := by decide +kernel
theorem dX11_row_28 : decode cX11_row 28 = .ok (.iconst (-1), 1) := by decide +kernel
theorem dX11_row_29 : decode cX11_row 29 = .ok (.ireturn, 1) := by decide +kernel
theorem dX11_row_30 : decode cX11_row 30 = .ok (.aload_n 0, 1) := by decide +kernel
theorem dX11_row_31 : decode cX11_row 31 = .ok (.getfield 95, 3) := by decide +kernel
theorem dX11_row_34 : decode cX11_row 34 = .ok (.bipush 40, 2) := by decide +kernel
theorem dX11_row_36 : decode cX11_row 36 = .ok (.iload_n 1, 1) := by decide +kernel
theorem dX11_row_37 : decode cX11_row 37 = .ok (.imul, 1) := by decide +kernel
theorem dX11_row_38 : decode cX11_row 38 = .ok (.aload_n 0, 1) := by decide +kernel
theorem dX11_row_39 : decode cX11_row 39 = .ok (.getfield 92, 3) := by decide +kernel
theorem dX11_row_42 : decode cX11_row 42 = .ok (.iload_n 1, 1) := by decide +kernel
theorem dX11_row_43 : decode cX11_row 43 = .ok (.iaload, 1) := by decide +kernel
theorem dX11_row_44 : decode cX11_row 44 = .ok (.iadd, 1) := by decide +kernel
theorem dX11_row_45 : decode cX11_row 45 = .ok (.iload_n 2, 1) := by decide +kernel
theorem dX11_row_46 : decode cX11_row 46 = .ok (.iastore, 1) := by decide +kernel
theorem dX11_row_47 : decode cX11_row 47 = .ok (.aload_n 0, 1) := by decide +kernel
theorem dX11_row_48 : decode cX11_row 48 = .ok (.getfield 98, 3) := by decide +kernel
theorem dX11_row_51 : decode cX11_row 51 = .ok (.bipush 40, 2) := by decide +kernel
theorem dX11_row_53 : decode cX11_row 53 = .ok (.iload_n 1, 1) := by decide +kernel
theorem dX11_row_54 : decode cX11_row 54 = .ok (.imul, 1) := by decide +kernel
theorem dX11_row_55 : decode cX11_row 55 = .ok (.aload_n 0, 1) := by decide +kernel
theorem dX11_row_56 : decode cX11_row 56 = .ok (.getfield 92, 3) := by decide +kernel
theorem dX11_row_59 : decode cX11_row 59 = .ok (.iload_n 1, 1) := by decide +kernel
theorem dX11_row_60 : decode cX11_row 60 = .ok (.iaload, 1) := by decide +kernel
theorem dX11_row_61 : decode cX11_row 61 = .ok (.iadd, 1) := by decide +kernel
theorem dX11_row_62 : decode cX11_row 62 = .ok (.iload_n 3, 1) := by decide +kernel
theorem dX11_row_63 : decode cX11_row 63 = .ok (.iastore, 1) := by decide +kernel
theorem dX11_row_64 : decode cX11_row 64 = .ok (.aload_n 0, 1) := by decide +kernel
theorem dX11_row_65 : decode cX11_row 65 = .ok (.getfield 92, 3) := by decide +kernel
theorem dX11_row_68 : decode cX11_row 68 = .ok (.iload_n 1, 1) := by decide +kernel
theorem dX11_row_69 : decode cX11_row 69 = .ok (.dup2, 1) := by decide +kernel
theorem dX11_row_70 : decode cX11_row 70 = .ok (.iaload, 1) := by decide +kernel
theorem dX11_row_71 : decode cX11_row 71 = .ok (.iconst 1, 1) := by decide +kernel
theorem dX11_row_72 : decode cX11_row 72 = .ok (.iadd, 1) := by decide +kernel
theorem dX11_row_73 : decode cX11_row 73 = .ok (.iastore, 1) := by decide +kernel
theorem dX11_row_74 : decode cX11_row 74 = .ok (.aload_n 0, 1) := by decide +kernel
theorem dX11_row_75 : decode cX11_row 75 = .ok (.getfield 92, 3) := by decide +kernel
theorem dX11_row_78 : decode cX11_row 78 = .ok (.iload_n 1, 1) := by decide +kernel
theorem dX11_row_79 : decode cX11_row 79 = .ok (.iaload, 1) := by decide +kernel
theorem dX11_row_80 : decode cX11_row 80 = .ok (.ireturn, 1) := by decide +kernel
theorem dX11_land_0 : decode cX11_land 0 = .ok (.iload_n 1, 1) := by decide +kernel
theorem dX11_land_1 : decode cX11_land 1 = .ok (.invokestatic 292, 3) := by decide +kernel
theorem dX11_land_4 : decode cX11_land 4 = .ok (.ifCond .ne 5, 3) := by decide +kernel
theorem dX11_land_7 : decode cX11_land 7 = .ok (.iconst (-1), 1) := by decide +kernel
theorem dX11_land_8 : decode cX11_land 8 = .ok (.ireturn, 1) := by decide +kernel
theorem dX11_land_9 : decode cX11_land 9 = .ok (.aload_n 0, 1) := by decide +kernel
theorem dX11_land_10 : decode cX11_land 10 = .ok (.getfield 101, 3) := by decide +kernel
theorem dX11_land_13 : decode cX11_land 13 = .ok (.iload_n 1, 1) := by decide +kernel
theorem dX11_land_14 : decode cX11_land 14 = .ok (.aload_n 0, 1) := by decide +kernel
theorem dX11_land_15 : decode cX11_land 15 = .ok (.getfield 92, 3) := by decide +kernel
theorem dX11_land_18 : decode cX11_land 18 = .ok (.iload_n 1, 1) := by decide +kernel
theorem dX11_land_19 : decode cX11_land 19 = .ok (.iaload, 1) := by decide +kernel
theorem dX11_land_20 : decode cX11_land 20 = .ok (.iastore, 1) := by decide +kernel
theorem dX11_land_21 : decode cX11_land 21 = .ok (.bipush 40, 2) := by decide +kernel
theorem dX11_land_23 : decode cX11_land 23 = .ok (.iload_n 1, 1) := by decide +kernel
theorem dX11_land_24 : decode cX11_land 24 = .ok (.imul, 1) := by decide +kernel
theorem dX11_land_25 : decode cX11_land 25 = .ok (.istore_n 2, 1) := by decide +kernel
theorem dX11_land_26 : decode cX11_land 26 = .ok (.iload_n 2, 1) := by decide +kernel
theorem dX11_land_27 : decode cX11_land 27 = .ok (.bipush 40, 2) := by decide +kernel
theorem dX11_land_29 : decode cX11_land 29 = .ok (.iload_n 1, 1) := by decide +kernel
theorem dX11_land_30 : decode cX11_land 30 = .ok (.imul, 1) := by decide +kernel
theorem dX11_land_31 : decode cX11_land 31 = .ok (.aload_n 0, 1) := by decide +kernel
theorem dX11_land_32 : decode cX11_land 32 = .ok (.getfield 101, 3) := by decide +kernel
theorem dX11_land_35 : decode cX11_land 35 = .ok (.iload_n 1, 1) := by decide +kernel
theorem dX11_land_36 : decode cX11_land 36 = .ok (.iaload, 1) := by decide +kernel
theorem dX11_land_37 : decode cX11_land 37 = .ok (.iadd, 1) := by decide +kernel
theorem dX11_land_38 : decode cX11_land 38 = .ok (.if_icmp .ge 33, 3) := by decide +kernel
theorem dX11_land_41 : decode cX11_land 41 = .ok (.aload_n 0, 1) := by decide +kernel
theorem dX11_land_42 : decode cX11_land 42 = .ok (.getfield 104, 3) := by decide +kernel
theorem dX11_land_45 : decode cX11_land 45 = .ok (.iload_n 2, 1) := by decide +kernel
theorem dX11_land_46 : decode cX11_land 46 = .ok (.aload_n 0, 1) := by decide +kernel
theorem dX11_land_47 : decode cX11_land 47 = .ok (.getfield 95, 3) := by decide +kernel
theorem dX11_land_50 : decode cX11_land 50 = .ok (.iload_n 2, 1) := by decide +kernel
theorem dX11_land_51 : decode cX11_land 51 = .ok (.iaload, 1) := by decide +kernel
theorem dX11_land_52 : decode cX11_land 52 = .ok (.iastore, 1) := by decide +kernel
theorem dX11_land_53 : decode cX11_land 53 = .ok (.aload_n 0, 1) := by decide +kernel
theorem dX11_land_54 : decode cX11_land 54 = .ok (.getfield 107, 3) := by decide +kernel
theorem dX11_land_57 : decode cX11_land 57 = .ok (.iload_n 2, 1) := by decide +kernel
theorem dX11_land_58 : decode cX11_land 58 = .ok (.aload_n 0, 1) := by decide +kernel
theorem dX11_land_59 : decode cX11_land 59 = .ok (.getfield 98, 3) := by decide +kernel
theorem dX11_land_62 : decode cX11_land 62 = .ok (.iload_n 2, 1) := by decide +kernel
theorem dX11_land_63 : decode cX11_land 63 = .ok (.iaload, 1) := by decide +kernel
theorem dX11_land_64 : decode cX11_land 64 = .ok (.iastore, 1) := by decide +kernel
theorem dX11_land_65 : decode cX11_land 65 = .ok (.iinc 2 1, 3) := by decide +kernel
theorem dX11_land_68 : decode cX11_land 68 = .ok (.goto (-42), 3) := by decide +kernel
theorem dX11_land_71 : decode cX11_land 71 = .ok (.aload_n 0, 1) := by decide +kernel
theorem dX11_land_72 : decode cX11_land 72 = .ok (.getfield 92, 3) := by decide +kernel
theorem dX11_land_75 : decode cX11_land 75 = .ok (.iload_n 1, 1) := by decide +kernel
theorem dX11_land_76 : decode cX11_land 76 = .ok (.iconst 0, 1) := by decide +kernel
theorem dX11_land_77 : decode cX11_land 77 = .ok (.iastore, 1) := by decide +kernel
theorem dX11_land_78 : decode cX11_land 78 = .ok (.aload_n 0, 1) := by decide +kernel
theorem dX11_land_79 : decode cX11_land 79 = .ok (.getfield 89, 3) := by decide +kernel
theorem dX11_land_82 : decode cX11_land 82 = .ok (.iload_n 1, 1) := by decide +kernel
theorem dX11_land_83 : decode cX11_land 83 = .ok (.dup2, 1) := by decide +kernel
theorem dX11_land_84 : decode cX11_land 84 = .ok (.iaload, 1) := by decide +kernel
theorem dX11_land_85 : decode cX11_land 85 = .ok (.iconst 1, 1) := by decide +kernel
theorem dX11_land_86 : decode cX11_land 86 = .ok (.iadd, 1) := by decide +kernel
theorem dX11_land_87 : decode cX11_land 87 = .ok (.iastore, 1) := by decide +kernel
theorem dX11_land_88 : decode cX11_land 88 = .ok (.iconst 0, 1) := by decide +kernel
theorem dX11_land_89 : decode cX11_land 89 = .ok (.istore_n 2, 1) := by decide +kernel
theorem dX11_land_90 : decode cX11_land 90 = .ok (.iload_n 2, 1) := by decide +kernel
theorem dX11_land_91 : decode cX11_land 91 = .ok (.aload_n 0, 1) := by decide +kernel
theorem dX11_land_92 : decode cX11_land 92 = .ok (.getfield 40, 3) := by decide +kernel
theorem dX11_land_95 : decode cX11_land 95 = .ok (.aload_n 0, 1) := by decide +kernel
theorem dX11_land_96 : decode cX11_land 96 = .ok (.getfield 234, 3) := by decide +kernel
theorem dX11_land_99 : decode cX11_land 99 = .ok (.iaload, 1) := by decide +kernel
theorem dX11_land_100 : decode cX11_land 100 = .ok (.if_icmp .ge 77, 3) := by decide +kernel
theorem dX11_land_103 : decode cX11_land 103 = .ok (.aload_n 0, 1) := by decide +kernel
theorem dX11_land_104 : decode cX11_land 104 = .ok (.getfield 71, 3) := by decide +kernel
theorem dX11_land_107 : decode cX11_land 107 = .ok (.bipush 7, 2) := by decide +kernel
theorem dX11_land_109 : decode cX11_land 109 = .ok (.aload_n 0, 1) := by decide +kernel
theorem dX11_land_110 : decode cX11_land 110 = .ok (.getfield 234, 3) := by decide +kernel
theorem dX11_land_113 : decode cX11_land 113 = .ok (.imul, 1) := by decide +kernel
theorem dX11_land_114 : decode cX11_land 114 = .ok (.iload_n 2, 1) := by decide +kernel
theorem dX11_land_115 : decode cX11_land 115 = .ok (.iadd, 1) := by decide +kernel
theorem dX11_land_116 : decode cX11_land 116 = .ok (.iaload, 1) := by decide +kernel
theorem dX11_land_117 : decode cX11_land 117 = .ok (.iload_n 1, 1) := by decide +kernel
theorem dX11_land_118 : decode cX11_land 118 = .ok (.ishr, 1) := by decide +kernel
theorem dX11_land_119 : decode cX11_land 119 = .ok (.iconst 1, 1) := by decide +kernel
theorem dX11_land_120 : decode cX11_land 120 = .ok (.iand, 1) := by decide +kernel
theorem dX11_land_121 : decode cX11_land 121 = .ok (.ifCond .ne 6, 3) := by decide +kernel
theorem dX11_land_124 : decode cX11_land 124 = .ok (.goto 47, 3) := by decide +kernel
theorem dX11_land_127 : decode cX11_land 127 = .ok (.aload_n 0, 1) := by decide +kernel
theorem dX11_land_128 : decode cX11_land 128 = .ok (.getfield 122, 3) := by decide +kernel
theorem dX11_land_131 : decode cX11_land 131 = .ok (.iload_n 2, 1) := by decide +kernel
theorem dX11_land_132 : decode cX11_land 132 = .ok (.iconst (-1), 1) := by decide +kernel
theorem dX11_land_133 : decode cX11_land 133 = .ok (.iastore, 1) := by decide +kernel
theorem dX11_land_134 : decode cX11_land 134 = .ok (.aload_n 0, 1) := by decide +kernel
theorem dX11_land_135 : decode cX11_land 135 = .ok (.getfield 128, 3) := by decide +kernel
theorem dX11_land_138 : decode cX11_land 138 = .ok (.iload_n 2, 1) := by decide +kernel
theorem dX11_land_139 : decode cX11_land 139 = .ok (.iconst 0, 1) := by decide +kernel
theorem dX11_land_140 : decode cX11_land 140 = .ok (.iastore, 1) := by decide +kernel
theorem dX11_land_141 : decode cX11_land 141 = .ok (.iconst 0, 1) := by decide +kernel
theorem dX11_land_142 : decode cX11_land 142 = .ok (.istore_n 3, 1) := by decide +kernel
theorem dX11_land_143 : decode cX11_land 143 = .ok (.iload_n 3, 1) := by decide +kernel
theorem dX11_land_144 : decode cX11_land 144 = .ok (.iconst 3, 1) := by decide +kernel
theorem dX11_land_145 : decode cX11_land 145 = .ok (.if_icmp .ge 26, 3) := by decide +kernel
theorem dX11_land_148 : decode cX11_land 148 = .ok (.aload_n 0, 1) := by decide +kernel
theorem dX11_land_149 : decode cX11_land 149 = .ok (.getfield 116, 3) := by decide +kernel
theorem dX11_land_152 : decode cX11_land 152 = .ok (.iload_n 3, 1) := by decide +kernel
theorem dX11_land_153 : decode cX11_land 153 = .ok (.iaload, 1) := by decide +kernel
theorem dX11_land_154 : decode cX11_land 154 = .ok (.iload_n 2, 1) := by decide +kernel
theorem dX11_land_155 : decode cX11_land 155 = .ok (.if_icmp .ne 10, 3) := by decide +kernel
theorem dX11_land_158 : decode cX11_land 158 = .ok (.aload_n 0, 1) := by decide +kernel
theorem dX11_land_159 : decode cX11_land 159 = .ok (.getfield 116, 3) := by decide +kernel
theorem dX11_land_162 : decode cX11_land 162 = .ok (.iload_n 3, 1) := by decide +kernel
theorem dX11_land_163 : decode cX11_land 163 = .ok (.iconst (-1), 1) := by decide +kernel
theorem dX11_land_164 : decode cX11_land 164 = .ok (.iastore, 1) := by decide +kernel
theorem dX11_land_165 : decode cX11_land 165 = .ok (.iinc 3 1, 3) := by decide +kernel
theorem dX11_land_168 : decode cX11_land 168 = .ok (.goto (-25), 3) := by decide +kernel
theorem dX11_land_171 : decode cX11_land 171 = .ok (.iinc 2 1, 3) := by decide +kernel
theorem dX11_land_174 : decode cX11_land 174 = .ok (.goto (-84), 3) := by decide +kernel
theorem dX11_land_177 : decode cX11_land 177 = .ok (.aload_n 0, 1) := by decide +kernel
theorem dX11_land_178 : decode cX11_land 178 = .ok (.getfield 89, 3) := by decide +kernel
theorem dX11_land_181 : decode cX11_land 181 = .ok (.iload_n 1, 1) := by decide +kernel
theorem dX11_land_182 : decode cX11_land 182 = .ok (.iaload, 1) := by decide +kernel
theorem dX11_land_183 : decode cX11_land 183 = .ok (.ireturn, 1) := by decide +kernel
theorem dX11_reader_0 : decode cX11_reader 0 = .ok (.aload_n 0, 1) := by decide +kernel
theorem dX11_reader_1 : decode cX11_reader 1 = .ok (.getfield 289, 3) := by decide +kernel
theorem dX11_reader_4 : decode cX11_reader 4 = .ok (.bipush 6, 2) := by decide +kernel
theorem dX11_reader_6 : decode cX11_reader 6 = .ok (.if_icmp .eq 14, 3) := by decide +kernel
theorem dX11_reader_9 : decode cX11_reader 9 = .ok (.iload_n 1, 1) := by decide +kernel
theorem dX11_reader_10 : decode cX11_reader 10 = .ok (.ifCond .lt 10, 3) := by decide +kernel
theorem dX11_reader_13 : decode cX11_reader 13 = .ok (.iload_n 1, 1) := by decide +kernel
theorem dX11_reader_14 : decode cX11_reader 14 = .ok (.sipush 255, 3) := by decide +kernel
theorem dX11_reader_17 : decode cX11_reader 17 = .ok (.if_icmp .le 5, 3) := by decide +kernel
theorem dX11_reader_20 : decode cX11_reader 20 = .ok (.iconst (-1), 1) := by decide +kernel
theorem dX11_reader_21 : decode cX11_reader 21 = .ok (.ireturn, 1) := by decide +kernel
theorem dX11_reader_22 : decode cX11_reader 22 = .ok (.aload_n 0, 1) := by decide +kernel
theorem dX11_reader_23 : decode cX11_reader 23 = .ok (.getfield 110, 3) := by decide +kernel
theorem dX11_reader_26 : decode cX11_reader 26 = .ok (.aload_n 0, 1) := by decide +kernel
theorem dX11_reader_27 : decode cX11_reader 27 = .ok (.getfield 289, 3) := by decide +kernel
theorem dX11_reader_30 : decode cX11_reader 30 = .ok (.iload_n 1, 1) := by decide +kernel
theorem dX11_reader_31 : decode cX11_reader 31 = .ok (.iastore, 1) := by decide +kernel
theorem dX11_reader_32 : decode cX11_reader 32 = .ok (.aload_n 0, 1) := by decide +kernel
theorem dX11_reader_33 : decode cX11_reader 33 = .ok (.getfield 113, 3) := by decide +kernel
theorem dX11_reader_36 : decode cX11_reader 36 = .ok (.aload_n 0, 1) := by decide +kernel
theorem dX11_reader_37 : decode cX11_reader 37 = .ok (.getfield 289, 3) := by decide +kernel
theorem dX11_reader_40 : decode cX11_reader 40 = .ok (.iconst 0, 1) := by decide +kernel
theorem dX11_reader_41 : decode cX11_reader 41 = .ok (.bastore, 1) := by decide +kernel
theorem dX11_reader_42 : decode cX11_reader 42 = .ok (.aload_n 0, 1) := by decide +kernel
theorem dX11_reader_43 : decode cX11_reader 43 = .ok (.dup, 1) := by decide +kernel
theorem dX11_reader_44 : decode cX11_reader 44 = .ok (.getfield 289, 3) := by decide +kernel
theorem dX11_reader_47 : decode cX11_reader 47 = .ok (.iconst 1, 1) := by decide +kernel
theorem dX11_reader_48 : decode cX11_reader 48 = .ok (.iadd, 1) := by decide +kernel
theorem dX11_reader_49 : decode cX11_reader 49 = .ok (.putfield 289, 3) := by decide +kernel
theorem dX11_reader_52 : decode cX11_reader 52 = .ok (.aload_n 0, 1) := by decide +kernel
theorem dX11_reader_53 : decode cX11_reader 53 = .ok (.getfield 289, 3) := by decide +kernel
theorem dX11_reader_56 : decode cX11_reader 56 = .ok (.iconst 1, 1) := by decide +kernel
theorem dX11_reader_57 : decode cX11_reader 57 = .ok (.isub, 1) := by decide +kernel
theorem dX11_reader_58 : decode cX11_reader 58 = .ok (.ireturn, 1) := by decide +kernel
theorem dX11_rights_0 : decode cX11_rights 0 = .ok (.aload_n 0, 1) := by decide +kernel
theorem dX11_rights_1 : decode cX11_rights 1 = .ok (.iload_n 1, 1) := by decide +kernel
theorem dX11_rights_2 : decode cX11_rights 2 = .ok (.invokevirtual 295, 3) := by decide +kernel
theorem dX11_rights_5 : decode cX11_rights 5 = .ok (.ifCond .eq 14, 3) := by decide +kernel
theorem dX11_rights_8 : decode cX11_rights 8 = .ok (.iload_n 2, 1) := by decide +kernel
theorem dX11_rights_9 : decode cX11_rights 9 = .ok (.ifCond .lt 10, 3) := by decide +kernel
theorem dX11_rights_12 : decode cX11_rights 12 = .ok (.iload_n 2, 1) := by decide +kernel
theorem dX11_rights_13 : decode cX11_rights 13 = .ok (.sipush 255, 3) := by decide +kernel
theorem dX11_rights_16 : decode cX11_rights 16 = .ok (.if_icmp .le 5, 3) := by decide +kernel
theorem dX11_rights_19 : decode cX11_rights 19 = .ok (.iconst 0, 1) := by decide +kernel
theorem dX11_rights_20 : decode cX11_rights 20 = .ok (.ireturn, 1) := by decide +kernel
theorem dX11_rights_21 : decode cX11_rights 21 = .ok (.aload_n 0, 1) := by decide +kernel
theorem dX11_rights_22 : decode cX11_rights 22 = .ok (.getfield 110, 3) := by decide +kernel
theorem dX11_rights_25 : decode cX11_rights 25 = .ok (.iload_n 1, 1) := by decide +kernel
theorem dX11_rights_26 : decode cX11_rights 26 = .ok (.iload_n 2, 1) := by decide +kernel
theorem dX11_rights_27 : decode cX11_rights 27 = .ok (.iastore, 1) := by decide +kernel
theorem dX11_rights_28 : decode cX11_rights 28 = .ok (.iconst 1, 1) := by decide +kernel
theorem dX11_rights_29 : decode cX11_rights 29 = .ok (.ireturn, 1) := by decide +kernel
theorem dX11_hold_0 : decode cX11_hold 0 = .ok (.aload_n 0, 1) := by decide +kernel
theorem dX11_hold_1 : decode cX11_hold 1 = .ok (.iload_n 1, 1) := by decide +kernel
theorem dX11_hold_2 : decode cX11_hold 2 = .ok (.invokevirtual 295, 3) := by decide +kernel
theorem dX11_hold_5 : decode cX11_hold 5 = .ok (.ifCond .eq 13, 3) := by decide +kernel
theorem dX11_hold_8 : decode cX11_hold 8 = .ok (.aload_n 0, 1) := by decide +kernel
theorem dX11_hold_9 : decode cX11_hold 9 = .ok (.getfield 113, 3) := by decide +kernel
theorem dX11_hold_12 : decode cX11_hold 12 = .ok (.iload_n 1, 1) := by decide +kernel
theorem dX11_hold_13 : decode cX11_hold 13 = .ok (.baload, 1) := by decide +kernel
theorem dX11_hold_14 : decode cX11_hold 14 = .ok (.iload_n 2, 1) := by decide +kernel
theorem dX11_hold_15 : decode cX11_hold 15 = .ok (.if_icmp .ne 5, 3) := by decide +kernel
theorem dX11_hold_18 : decode cX11_hold 18 = .ok (.iconst 0, 1) := by decide +kernel
theorem dX11_hold_19 : decode cX11_hold 19 = .ok (.ireturn, 1) := by decide +kernel
theorem dX11_hold_20 : decode cX11_hold 20 = .ok (.aload_n 0, 1) := by decide +kernel
theorem dX11_hold_21 : decode cX11_hold 21 = .ok (.getfield 113, 3) := by decide +kernel
theorem dX11_hold_24 : decode cX11_hold 24 = .ok (.iload_n 1, 1) := by decide +kernel
theorem dX11_hold_25 : decode cX11_hold 25 = .ok (.iload_n 2, 1) := by decide +kernel
theorem dX11_hold_26 : decode cX11_hold 26 = .ok (.bastore, 1) := by decide +kernel
theorem dX11_hold_27 : decode cX11_hold 27 = .ok (.iload_n 2, 1) := by decide +kernel
theorem dX11_hold_28 : decode cX11_hold 28 = .ok (.ifCond .ne 57, 3) := by decide +kernel
theorem dX11_hold_31 : decode cX11_hold 31 = .ok (.iconst 0, 1) := by decide +kernel
theorem dX11_hold_32 : decode cX11_hold 32 = .ok (.istore_n 3, 1) := by decide +kernel
theorem dX11_hold_33 : decode cX11_hold 33 = .ok (.iload_n 3, 1) := by decide +kernel
theorem dX11_hold_34 : decode cX11_hold 34 = .ok (.aload_n 0, 1) := by decide +kernel
theorem dX11_hold_35 : decode cX11_hold 35 = .ok (.getfield 40, 3) := by decide +kernel
theorem dX11_hold_38 : decode cX11_hold 38 = .ok (.aload_n 0, 1) := by decide +kernel
theorem dX11_hold_39 : decode cX11_hold 39 = .ok (.getfield 234, 3) := by decide +kernel
theorem dX11_hold_42 : decode cX11_hold 42 = .ok (.iaload, 1) := by decide +kernel
theorem dX11_hold_43 : decode cX11_hold 43 = .ok (.if_icmp .ge 42, 3) := by decide +kernel
theorem dX11_hold_46 : decode cX11_hold 46 = .ok (.aload_n 0, 1) := by decide +kernel
theorem dX11_hold_47 : decode cX11_hold 47 = .ok (.getfield 46, 3) := by decide +kernel
theorem dX11_hold_50 : decode cX11_hold 50 = .ok (.bipush 7, 2) := by decide +kernel
theorem dX11_hold_52 : decode cX11_hold 52 = .ok (.aload_n 0, 1) := by decide +kernel
theorem dX11_hold_53 : decode cX11_hold 53 = .ok (.getfield 234, 3) := by decide +kernel
theorem dX11_hold_56 : decode cX11_hold 56 = .ok (.imul, 1) := by decide +kernel
theorem dX11_hold_57 : decode cX11_hold 57 = .ok (.iload_n 3, 1) := by decide +kernel
theorem dX11_hold_58 : decode cX11_hold 58 = .ok (.iadd, 1) := by decide +kernel
theorem dX11_hold_59 : decode cX11_hold 59 = .ok (.baload, 1) := by decide +kernel
theorem dX11_hold_60 : decode cX11_hold 60 = .ok (.ifCond .eq 19, 3) := by decide +kernel
theorem dX11_hold_63 : decode cX11_hold 63 = .ok (.aload_n 0, 1) := by decide +kernel
theorem dX11_hold_64 : decode cX11_hold 64 = .ok (.getfield 122, 3) := by decide +kernel
theorem dX11_hold_67 : decode cX11_hold 67 = .ok (.iload_n 3, 1) := by decide +kernel
theorem dX11_hold_68 : decode cX11_hold 68 = .ok (.iaload, 1) := by decide +kernel
theorem dX11_hold_69 : decode cX11_hold 69 = .ok (.iconst (-1), 1) := by decide +kernel
theorem dX11_hold_70 : decode cX11_hold 70 = .ok (.if_icmp .eq 9, 3) := by decide +kernel
theorem dX11_hold_73 : decode cX11_hold 73 = .ok (.aload_n 0, 1) := by decide +kernel
theorem dX11_hold_74 : decode cX11_hold 74 = .ok (.iload_n 3, 1) := by decide +kernel
theorem dX11_hold_75 : decode cX11_hold 75 = .ok (.iload_n 1, 1) := by decide +kernel
theorem dX11_hold_76 : decode cX11_hold 76 = .ok (.invokevirtual 298, 3) := by decide +kernel
theorem dX11_hold_79 : decode cX11_hold 79 = .ok (.iinc 3 1, 3) := by decide +kernel
theorem dX11_hold_82 : decode cX11_hold 82 = .ok (.goto (-49), 3) := by decide +kernel
theorem dX11_hold_85 : decode cX11_hold 85 = .ok (.iconst 1, 1) := by decide +kernel
theorem dX11_hold_86 : decode cX11_hold 86 = .ok (.ireturn, 1) := by decide +kernel
theorem dX11_reads_0 : decode cX11_reads 0 = .ok (.aload_n 0, 1) := by decide +kernel
theorem dX11_reads_1 : decode cX11_reads 1 = .ok (.iload_n 1, 1) := by decide +kernel
theorem dX11_reads_2 : decode cX11_reads 2 = .ok (.invokevirtual 301, 3) := by decide +kernel
theorem dX11_reads_5 : decode cX11_reads 5 = .ok (.ifCond .eq 42, 3) := by decide +kernel
theorem dX11_reads_8 : decode cX11_reads 8 = .ok (.aload_n 0, 1) := by decide +kernel
theorem dX11_reads_9 : decode cX11_reads 9 = .ok (.getfield 46, 3) := by decide +kernel
theorem dX11_reads_12 : decode cX11_reads 12 = .ok (.bipush 7, 2) := by decide +kernel
theorem dX11_reads_14 : decode cX11_reads 14 = .ok (.aload_n 0, 1) := by decide +kernel
theorem dX11_reads_15 : decode cX11_reads 15 = .ok (.getfield 234, 3) := by decide +kernel
theorem dX11_reads_18 : decode cX11_reads 18 = .ok (.imul, 1) := by decide +kernel
theorem dX11_reads_19 : decode cX11_reads 19 = .ok (.iload_n 1, 1) := by decide +kernel
theorem dX11_reads_20 : decode cX11_reads 20 = .ok (.iadd, 1) := by decide +kernel
theorem dX11_reads_21 : decode cX11_reads 21 = .ok (.baload, 1) := by decide +kernel
theorem dX11_reads_22 : decode cX11_reads 22 = .ok (.ifCond .eq 25, 3) := by decide +kernel
theorem dX11_reads_25 : decode cX11_reads 25 = .ok (.aload_n 0, 1) := by decide +kernel
theorem dX11_reads_26 : decode cX11_reads 26 = .ok (.iload_n 2, 1) := by decide +kernel
theorem dX11_reads_27 : decode cX11_reads 27 = .ok (.invokevirtual 295, 3) := by decide +kernel
theorem dX11_reads_30 : decode cX11_reads 30 = .ok (.ifCond .eq 17, 3) := by decide +kernel
theorem dX11_reads_33 : decode cX11_reads 33 = .ok (.aload_n 0, 1) := by decide +kernel
theorem dX11_reads_34 : decode cX11_reads 34 = .ok (.getfield 134, 3) := by decide +kernel
theorem dX11_reads_37 : decode cX11_reads 37 = .ok (.bipush 6, 2) := by decide +kernel
theorem dX11_reads_39 : decode cX11_reads 39 = .ok (.iload_n 1, 1) := by decide +kernel
theorem dX11_reads_40 : decode cX11_reads 40 = .ok (.imul, 1) := by decide +kernel
theorem dX11_reads_41 : decode cX11_reads 41 = .ok (.iload_n 2, 1) := by decide +kernel
theorem dX11_reads_42 : decode cX11_reads 42 = .ok (.iadd, 1) := by decide +kernel
theorem dX11_reads_43 : decode cX11_reads 43 = .ok (.baload, 1) := by decide +kernel
theorem dX11_reads_44 : decode cX11_reads 44 = .ok (.ifCond .eq 5, 3) := by decide +kernel
theorem dX11_reads_47 : decode cX11_reads 47 = .ok (.iconst 0, 1) := by decide +kernel
theorem dX11_reads_48 : decode cX11_reads 48 = .ok (.ireturn, 1) := by decide +kernel
theorem dX11_reads_49 : decode cX11_reads 49 = .ok (.aload_n 0, 1) := by decide +kernel
theorem dX11_reads_50 : decode cX11_reads 50 = .ok (.getfield 134, 3) := by decide +kernel
theorem dX11_reads_53 : decode cX11_reads 53 = .ok (.bipush 6, 2) := by decide +kernel
theorem dX11_reads_55 : decode cX11_reads 55 = .ok (.iload_n 1, 1) := by decide +kernel
theorem dX11_reads_56 : decode cX11_reads 56 = .ok (.imul, 1) := by decide +kernel
theorem dX11_reads_57 : decode cX11_reads 57 = .ok (.iload_n 2, 1) := by decide +kernel
theorem dX11_reads_58 : decode cX11_reads 58 = .ok (.iadd, 1) := by decide +kernel
theorem dX11_reads_59 : decode cX11_reads 59 = .ok (.iconst 1, 1) := by decide +kernel
theorem dX11_reads_60 : decode cX11_reads 60 = .ok (.bastore, 1) := by decide +kernel
theorem dX11_reads_61 : decode cX11_reads 61 = .ok (.iconst 1, 1) := by decide +kernel
theorem dX11_reads_62 : decode cX11_reads 62 = .ok (.ireturn, 1) := by decide +kernel
theorem dX11_hosts_0 : decode cX11_hosts 0 = .ok (.iload_n 1, 1) := by decide +kernel
theorem dX11_hosts_1 : decode cX11_hosts 1 = .ok (.iconst 1, 1) := by decide +kernel
theorem dX11_hosts_2 : decode cX11_hosts 2 = .ok (.if_icmp .lt 8, 3) := by decide +kernel
theorem dX11_hosts_5 : decode cX11_hosts 5 = .ok (.iload_n 1, 1) := by decide +kernel
theorem dX11_hosts_6 : decode cX11_hosts 6 = .ok (.iconst 3, 1) := by decide +kernel
theorem dX11_hosts_7 : decode cX11_hosts 7 = .ok (.if_icmp .le 5, 3) := by decide +kernel
theorem dX11_hosts_10 : decode cX11_hosts 10 = .ok (.iconst 0, 1) := by decide +kernel
theorem dX11_hosts_11 : decode cX11_hosts 11 = .ok (.ireturn, 1) := by decide +kernel
theorem dX11_hosts_12 : decode cX11_hosts 12 = .ok (.iconst 0, 1) := by decide +kernel
theorem dX11_hosts_13 : decode cX11_hosts 13 = .ok (.istore_n 2, 1) := by decide +kernel
theorem dX11_hosts_14 : decode cX11_hosts 14 = .ok (.iload_n 2, 1) := by decide +kernel
theorem dX11_hosts_15 : decode cX11_hosts 15 = .ok (.iconst 3, 1) := by decide +kernel
theorem dX11_hosts_16 : decode cX11_hosts 16 = .ok (.if_icmp .ge 21, 3) := by decide +kernel
theorem dX11_hosts_19 : decode cX11_hosts 19 = .ok (.aload_n 0, 1) := by decide +kernel
theorem dX11_hosts_20 : decode cX11_hosts 20 = .ok (.getfield 116, 3) := by decide +kernel
theorem dX11_hosts_23 : decode cX11_hosts 23 = .ok (.iload_n 2, 1) := by decide +kernel
theorem dX11_hosts_24 : decode cX11_hosts 24 = .ok (.iaload, 1) := by decide +kernel
theorem dX11_hosts_25 : decode cX11_hosts 25 = .ok (.iconst (-1), 1) := by decide +kernel
theorem dX11_hosts_26 : decode cX11_hosts 26 = .ok (.if_icmp .eq 5, 3) := by decide +kernel
theorem dX11_hosts_29 : decode cX11_hosts 29 = .ok (.iconst 0, 1) := by decide +kernel
theorem dX11_hosts_30 : decode cX11_hosts 30 = .ok (.ireturn, 1) := by decide +kernel
theorem dX11_hosts_31 : decode cX11_hosts 31 = .ok (.iinc 2 1, 3) := by decide +kernel
theorem dX11_hosts_34 : decode cX11_hosts 34 = .ok (.goto (-20), 3) := by decide +kernel
theorem dX11_hosts_37 : decode cX11_hosts 37 = .ok (.aload_n 0, 1) := by decide +kernel
theorem dX11_hosts_38 : decode cX11_hosts 38 = .ok (.iload_n 1, 1) := by decide +kernel
theorem dX11_hosts_39 : decode cX11_hosts 39 = .ok (.putfield 168, 3) := by decide +kernel
theorem dX11_hosts_42 : decode cX11_hosts 42 = .ok (.iconst 1, 1) := by decide +kernel
theorem dX11_hosts_43 : decode cX11_hosts 43 = .ok (.ireturn, 1) := by decide +kernel
theorem dX11_put__0 : decode cX11_put_ 0 = .ok (.iconst 0, 1) := by decide +kernel
theorem dX11_put__1 : decode cX11_put_ 1 = .ok (.istore 4, 2) := by decide +kernel
theorem dX11_put__3 : decode cX11_put_ 3 = .ok (.iload 4, 2) := by decide +kernel
theorem dX11_put__5 : decode cX11_put_ 5 = .ok (.bipush 8, 2) := by decide +kernel
theorem dX11_put__7 : decode cX11_put_ 7 = .ok (.if_icmp .ge 65, 3) := by decide +kernel
theorem dX11_put__10 : decode cX11_put_ 10 = .ok (.iload_n 3, 1) := by decide +kernel
theorem dX11_put__11 : decode cX11_put_ 11 = .ok (.i2l, 1) := by decide +kernel
theorem dX11_put__12 : decode cX11_put_ 12 = .ok (.lstore 5, 2) := by decide +kernel
theorem dX11_put__14 : decode cX11_put_ 14 = .ok (.iload_n 2, 1) := by decide +kernel
theorem dX11_put__15 : decode cX11_put_ 15 = .ok (.iconst 4, 1) := by decide +kernel
theorem dX11_put__16 : decode cX11_put_ 16 = .ok (.if_icmp .ne 17, 3) := by decide +kernel
theorem dX11_put__19 : decode cX11_put_ 19 = .ok (.aload_n 0, 1) := by decide +kernel
theorem dX11_put__20 : decode cX11_put_ 20 = .ok (.getfield 131, 3) := by decide +kernel
theorem dX11_put__23 : decode cX11_put_ 23 = .ok (.bipush 8, 2) := by decide +kernel
theorem dX11_put__25 : decode cX11_put_ 25 = .ok (.iload_n 3, 1) := by decide +kernel
theorem dX11_put__26 : decode cX11_put_ 26 = .ok (.imul, 1) := by decide +kernel
theorem dX11_put__27 : decode cX11_put_ 27 = .ok (.iload 4, 2) := by decide +kernel
theorem dX11_put__29 : decode cX11_put_ 29 = .ok (.iadd, 1) := by decide +kernel
theorem dX11_put__30 : decode cX11_put_ 30 = .ok (.laload, 1) := by decide +kernel
theorem dX11_put__31 : decode cX11_put_ 31 = .ok (.lstore 5, 2) := by decide +kernel
theorem dX11_put__33 : decode cX11_put_ 33 = .ok (.iload_n 2, 1) := by decide +kernel
theorem dX11_put__34 : decode cX11_put_ 34 = .ok (.ifCond .le 18, 3) := by decide +kernel
theorem dX11_put__37 : decode cX11_put_ 37 = .ok (.iload_n 2, 1) := by decide +kernel
theorem dX11_put__38 : decode cX11_put_ 38 = .ok (.iconst 4, 1) := by decide +kernel
theorem dX11_put__39 : decode cX11_put_ 39 = .ok (.if_icmp .ge 13, 3) := by decide +kernel
theorem dX11_put__42 : decode cX11_put_ 42 = .ok (.aload_n 0, 1) := by decide +kernel
theorem dX11_put__43 : decode cX11_put_ 43 = .ok (.iload_n 2, 1) := by decide +kernel
theorem dX11_put__44 : decode cX11_put_ 44 = .ok (.iload_n 3, 1) := by decide +kernel
theorem dX11_put__45 : decode cX11_put_ 45 = .ok (.iload 4, 2) := by decide +kernel
theorem dX11_put__47 : decode cX11_put_ 47 = .ok (.invokevirtual 304, 3) := by decide +kernel
theorem dX11_put__50 : decode cX11_put_ 50 = .ok (.lstore 5, 2) := by decide +kernel
theorem dX11_put__52 : decode cX11_put_ 52 = .ok (.aload_n 0, 1) := by decide +kernel
theorem dX11_put__53 : decode cX11_put_ 53 = .ok (.getfield 146, 3) := by decide +kernel
theorem dX11_put__56 : decode cX11_put_ 56 = .ok (.bipush 8, 2) := by decide +kernel
theorem dX11_put__58 : decode cX11_put_ 58 = .ok (.iload_n 1, 1) := by decide +kernel
theorem dX11_put__59 : decode cX11_put_ 59 = .ok (.imul, 1) := by decide +kernel
theorem dX11_put__60 : decode cX11_put_ 60 = .ok (.iload 4, 2) := by decide +kernel
theorem dX11_put__62 : decode cX11_put_ 62 = .ok (.iadd, 1) := by decide +kernel
theorem dX11_put__63 : decode cX11_put_ 63 = .ok (.lload 5, 2) := by decide +kernel
theorem dX11_put__65 : decode cX11_put_ 65 = .ok (.lastore, 1) := by decide +kernel
theorem dX11_put__66 : decode cX11_put_ 66 = .ok (.iinc 4 1, 3) := by decide +kernel
theorem dX11_put__69 : decode cX11_put_ 69 = .ok (.goto (-66), 3) := by decide +kernel
theorem dX11_put__72 : decode cX11_put_ 72 = .ok (.return_, 1) := by decide +kernel
theorem dX11_ofRows_0 : decode cX11_ofRows 0 = .ok (.lconst 0, 1) := by decide +kernel
theorem dX11_ofRows_1 : decode cX11_ofRows 1 = .ok (.lstore 4, 2) := by decide +kernel
theorem dX11_ofRows_3 : decode cX11_ofRows 3 = .ok (.iconst 0, 1) := by decide +kernel
theorem dX11_ofRows_4 : decode cX11_ofRows 4 = .ok (.istore 6, 2) := by decide +kernel
theorem dX11_ofRows_6 : decode cX11_ofRows 6 = .ok (.bipush 40, 2) := by decide +kernel
theorem dX11_ofRows_8 : decode cX11_ofRows 8 = .ok (.iload_n 2, 1) := by decide +kernel
theorem dX11_ofRows_9 : decode cX11_ofRows 9 = .ok (.imul, 1) := by decide +kernel
theorem dX11_ofRows_10 : decode cX11_ofRows 10 = .ok (.istore 7, 2) := by decide +kernel
theorem dX11_ofRows_12 : decode cX11_ofRows 12 = .ok (.iload 7, 2) := by decide +kernel
theorem dX11_ofRows_14 : decode cX11_ofRows 14 = .ok (.bipush 40, 2) := by decide +kernel
theorem dX11_ofRows_16 : decode cX11_ofRows 16 = .ok (.iload_n 2, 1) := by decide +kernel
theorem dX11_ofRows_17 : decode cX11_ofRows 17 = .ok (.imul, 1) := by decide +kernel
theorem dX11_ofRows_18 : decode cX11_ofRows 18 = .ok (.aload_n 0, 1) := by decide +kernel
theorem dX11_ofRows_19 : decode cX11_ofRows 19 = .ok (.getfield 101, 3) := by decide +kernel
theorem dX11_ofRows_22 : decode cX11_ofRows 22 = .ok (.iload_n 2, 1) := by decide +kernel
theorem dX11_ofRows_23 : decode cX11_ofRows 23 = .ok (.iaload, 1) := by decide +kernel
theorem dX11_ofRows_24 : decode cX11_ofRows 24 = .ok (.iadd, 1) := by decide +kernel
theorem dX11_ofRows_25 : decode cX11_ofRows 25 = .ok (.if_icmp .ge 90, 3) := by decide +kernel
theorem dX11_ofRows_28 : decode cX11_ofRows 28 = .ok (.aload_n 0, 1) := by decide +kernel
theorem dX11_ofRows_29 : decode cX11_ofRows 29 = .ok (.getfield 104, 3) := by decide +kernel
theorem dX11_ofRows_32 : decode cX11_ofRows 32 = .ok (.iload 7, 2) := by decide +kernel
theorem dX11_ofRows_34 : decode cX11_ofRows 34 = .ok (.iaload, 1) := by decide +kernel
theorem dX11_ofRows_35 : decode cX11_ofRows 35 = .ok (.iload_n 3, 1) := by decide +kernel
theorem dX11_ofRows_36 : decode cX11_ofRows 36 = .ok (.if_icmp .eq 6, 3) := by decide +kernel
theorem dX11_ofRows_39 : decode cX11_ofRows 39 = .ok (.goto 70, 3) := by decide +kernel
theorem dX11_ofRows_42 : decode cX11_ofRows 42 = .ok (.iload_n 1, 1) := by decide +kernel
theorem dX11_ofRows_43 : decode cX11_ofRows 43 = .ok (.iconst 1, 1) := by decide +kernel
theorem dX11_ofRows_44 : decode cX11_ofRows 44 = .ok (.if_icmp .ne 19, 3) := by decide +kernel
theorem dX11_ofRows_47 : decode cX11_ofRows 47 = .ok (.lload 4, 2) := by decide +kernel
theorem dX11_ofRows_49 : decode cX11_ofRows 49 = .ok (.aload_n 0, 1) := by decide +kernel
theorem dX11_ofRows_50 : decode cX11_ofRows 50 = .ok (.getfield 107, 3) := by decide +kernel
theorem dX11_ofRows_53 : decode cX11_ofRows 53 = .ok (.iload 7, 2) := by decide +kernel
theorem dX11_ofRows_55 : decode cX11_ofRows 55 = .ok (.iaload, 1) := by decide +kernel
theorem dX11_ofRows_56 : decode cX11_ofRows 56 = .ok (.i2l, 1) := by decide +kernel
theorem dX11_ofRows_57 : decode cX11_ofRows 57 = .ok (.ladd, 1) := by decide +kernel
theorem dX11_ofRows_58 : decode cX11_ofRows 58 = .ok (.lstore 4, 2) := by decide +kernel
theorem dX11_ofRows_60 : decode cX11_ofRows 60 = .ok (.goto 46, 3) := by decide +kernel
theorem dX11_ofRows_63 : decode cX11_ofRows 63 = .ok (.iload_n 1, 1) := by decide +kernel
theorem dX11_ofRows_64 : decode cX11_ofRows 64 = .ok (.iconst 2, 1) := by decide +kernel
theorem dX11_ofRows_65 : decode cX11_ofRows 65 = .ok (.if_icmp .ne 12, 3) := by decide +kernel
theorem dX11_ofRows_68 : decode cX11_ofRows 68 = .ok (.lload 4, 2) := by decide +kernel
theorem dX11_ofRows_70 : decode cX11_ofRows 70 = .ok (.lconst 1, 1) := by decide +kernel
theorem dX11_ofRows_71 : decode cX11_ofRows 71 = .ok (.ladd, 1) := by decide +kernel
theorem dX11_ofRows_72 : decode cX11_ofRows 72 = .ok (.lstore 4, 2) := by decide +kernel
theorem dX11_ofRows_74 : decode cX11_ofRows 74 = .ok (.goto 32, 3) := by decide +kernel
theorem dX11_ofRows_77 : decode cX11_ofRows 77 = .ok (.iload 6, 2) := by decide +kernel
theorem dX11_ofRows_79 : decode cX11_ofRows 79 = .ok (.ifCond .eq 17, 3) := by decide +kernel
theorem dX11_ofRows_82 : decode cX11_ofRows 82 = .ok (.aload_n 0, 1) := by decide +kernel
theorem dX11_ofRows_83 : decode cX11_ofRows 83 = .ok (.getfield 107, 3) := by decide +kernel
theorem dX11_ofRows_86 : decode cX11_ofRows 86 = .ok (.iload 7, 2) := by decide +kernel
theorem dX11_ofRows_88 : decode cX11_ofRows 88 = .ok (.iaload, 1) := by decide +kernel
theorem dX11_ofRows_89 : decode cX11_ofRows 89 = .ok (.i2l, 1) := by decide +kernel
theorem dX11_ofRows_90 : decode cX11_ofRows 90 = .ok (.lload 4, 2) := by decide +kernel
theorem dX11_ofRows_92 : decode cX11_ofRows 92 = .ok (.lcmp, 1) := by decide +kernel
theorem dX11_ofRows_93 : decode cX11_ofRows 93 = .ok (.ifCond .le 13, 3) := by decide +kernel
theorem dX11_ofRows_96 : decode cX11_ofRows 96 = .ok (.aload_n 0, 1) := by decide +kernel
theorem dX11_ofRows_97 : decode cX11_ofRows 97 = .ok (.getfield 107, 3) := by decide +kernel
theorem dX11_ofRows_100 : decode cX11_ofRows 100 = .ok (.iload 7, 2) := by decide +kernel
theorem dX11_ofRows_102 : decode cX11_ofRows 102 = .ok (.iaload, 1) := by decide +kernel
theorem dX11_ofRows_103 : decode cX11_ofRows 103 = .ok (.i2l, 1) := by decide +kernel
theorem dX11_ofRows_104 : decode cX11_ofRows 104 = .ok (.lstore 4, 2) := by decide +kernel
theorem dX11_ofRows_106 : decode cX11_ofRows 106 = .ok (.iconst 1, 1) := by decide +kernel
theorem dX11_ofRows_107 : decode cX11_ofRows 107 = .ok (.istore 6, 2) := by decide +kernel
theorem dX11_ofRows_109 : decode cX11_ofRows 109 = .ok (.iinc 7 1, 3) := by decide +kernel
theorem dX11_ofRows_112 : decode cX11_ofRows 112 = .ok (.goto (-100), 3) := by decide +kernel
theorem dX11_ofRows_115 : decode cX11_ofRows 115 = .ok (.lload 4, 2) := by decide +kernel
theorem dX11_ofRows_117 : decode cX11_ofRows 117 = .ok (.lreturn, 1) := by decide +kernel
theorem dX11_works_0 : decode cX11_works 0 = .ok (.iconst 0, 1) := by decide +kernel
theorem dX11_works_1 : decode cX11_works 1 = .ok (.istore_n 2, 1) := by decide +kernel
theorem dX11_works_2 : decode cX11_works 2 = .ok (.aload_n 0, 1) := by decide +kernel
theorem dX11_works_3 : decode cX11_works 3 = .ok (.getfield 59, 3) := by decide +kernel
theorem dX11_works_6 : decode cX11_works 6 = .ok (.bipush 7, 2) := by decide +kernel
theorem dX11_works_8 : decode cX11_works 8 = .ok (.aload_n 0, 1) := by decide +kernel
theorem dX11_works_9 : decode cX11_works 9 = .ok (.getfield 234, 3) := by decide +kernel
theorem dX11_works_12 : decode cX11_works 12 = .ok (.imul, 1) := by decide +kernel
theorem dX11_works_13 : decode cX11_works 13 = .ok (.iload_n 1, 1) := by decide +kernel
theorem dX11_works_14 : decode cX11_works 14 = .ok (.iadd, 1) := by decide +kernel
theorem dX11_works_15 : decode cX11_works 15 = .ok (.iaload, 1) := by decide +kernel
theorem dX11_works_16 : decode cX11_works 16 = .ok (.istore_n 3, 1) := by decide +kernel
theorem dX11_works_17 : decode cX11_works 17 = .ok (.iload_n 3, 1) := by decide +kernel
theorem dX11_works_18 : decode cX11_works 18 = .ok (.aload_n 0, 1) := by decide +kernel
theorem dX11_works_19 : decode cX11_works 19 = .ok (.getfield 62, 3) := by decide +kernel
theorem dX11_works_22 : decode cX11_works 22 = .ok (.bipush 7, 2) := by decide +kernel
theorem dX11_works_24 : decode cX11_works 24 = .ok (.aload_n 0, 1) := by decide +kernel
theorem dX11_works_25 : decode cX11_works 25 = .ok (.getfield 234, 3) := by decide +kernel
theorem dX11_works_28 : decode cX11_works 28 = .ok (.imul, 1) := by decide +kernel
theorem dX11_works_29 : decode cX11_works 29 = .ok (.iload_n 1, 1) := by decide +kernel
theorem dX11_works_30 : decode cX11_works 30 = .ok (.iadd, 1) := by decide +kernel
theorem dX11_works_31 : decode cX11_works 31 = .ok (.iaload, 1) := by decide +kernel
theorem dX11_works_32 : decode cX11_works 32 = .ok (.if_icmp .ge 164, 3) := by decide +kernel
theorem dX11_works_35 : decode cX11_works 35 = .ok (.aload_n 0, 1) := by decide +kernel
theorem dX11_works_36 : decode cX11_works 36 = .ok (.getfield 74, 3) := by decide +kernel
theorem dX11_works_39 : decode cX11_works 39 = .ok (.iload_n 3, 1) := by decide +kernel
theorem dX11_works_40 : decode cX11_works 40 = .ok (.iaload, 1) := by decide +kernel
theorem dX11_works_41 : decode cX11_works 41 = .ok (.istore 4, 2) := by decide +kernel
theorem dX11_works_43 : decode cX11_works 43 = .ok (.iload 4, 2) := by decide +kernel
theorem dX11_works_45 : decode cX11_works 45 = .ok (.iconst 5, 1) := by decide +kernel
theorem dX11_works_46 : decode cX11_works 46 = .ok (.if_icmp .ge 22, 3) := by decide +kernel
theorem dX11_works_49 : decode cX11_works 49 = .ok (.aload_n 0, 1) := by decide +kernel
theorem dX11_works_50 : decode cX11_works 50 = .ok (.iload_n 2, 1) := by decide +kernel
theorem dX11_works_51 : decode cX11_works 51 = .ok (.iload 4, 2) := by decide +kernel
theorem dX11_works_53 : decode cX11_works 53 = .ok (.aload_n 0, 1) := by decide +kernel
theorem dX11_works_54 : decode cX11_works 54 = .ok (.getfield 77, 3) := by decide +kernel
theorem dX11_works_57 : decode cX11_works 57 = .ok (.iload_n 3, 1) := by decide +kernel
theorem dX11_works_58 : decode cX11_works 58 = .ok (.iaload, 1) := by decide +kernel
theorem dX11_works_59 : decode cX11_works 59 = .ok (.invokevirtual 308, 3) := by decide +kernel
theorem dX11_works_62 : decode cX11_works 62 = .ok (.iinc 2 1, 3) := by decide +kernel
theorem dX11_works_65 : decode cX11_works 65 = .ok (.goto 125, 3) := by decide +kernel
theorem dX11_works_68 : decode cX11_works 68 = .ok (.iinc 2 (-1), 3) := by decide +kernel
theorem dX11_works_71 : decode cX11_works 71 = .ok (.iconst 0, 1) := by decide +kernel
theorem dX11_works_72 : decode cX11_works 72 = .ok (.istore 5, 2) := by decide +kernel
theorem dX11_works_74 : decode cX11_works 74 = .ok (.iload 5, 2) := by decide +kernel
theorem dX11_works_76 : decode cX11_works 76 = .ok (.bipush 8, 2) := by decide +kernel
theorem dX11_works_78 : decode cX11_works 78 = .ok (.if_icmp .ge 112, 3) := by decide +kernel
theorem dX11_works_81 : decode cX11_works 81 = .ok (.aload_n 0, 1) := by decide +kernel
theorem dX11_works_82 : decode cX11_works 82 = .ok (.getfield 146, 3) := by decide +kernel
theorem dX11_works_85 : decode cX11_works 85 = .ok (.bipush 8, 2) := by decide +kernel
theorem dX11_works_87 : decode cX11_works 87 = .ok (.iload_n 2, 1) := by decide +kernel
theorem dX11_works_88 : decode cX11_works 88 = .ok (.iconst 1, 1) := by decide +kernel
theorem dX11_works_89 : decode cX11_works 89 = .ok (.isub, 1) := by decide +kernel
theorem dX11_works_90 : decode cX11_works 90 = .ok (.imul, 1) := by decide +kernel
theorem dX11_works_91 : decode cX11_works 91 = .ok (.iload 5, 2) := by decide +kernel
theorem dX11_works_93 : decode cX11_works 93 = .ok (.iadd, 1) := by decide +kernel
theorem dX11_works_94 : decode cX11_works 94 = .ok (.laload, 1) := by decide +kernel
theorem dX11_works_95 : decode cX11_works 95 = .ok (.lstore 6, 2) := by decide +kernel
theorem dX11_works_97 : decode cX11_works 97 = .ok (.aload_n 0, 1) := by decide +kernel
theorem dX11_works_98 : decode cX11_works 98 = .ok (.getfield 146, 3) := by decide +kernel
theorem dX11_works_101 : decode cX11_works 101 = .ok (.bipush 8, 2) := by decide +kernel
theorem dX11_works_103 : decode cX11_works 103 = .ok (.iload_n 2, 1) := by decide +kernel
theorem dX11_works_104 : decode cX11_works 104 = .ok (.imul, 1) := by decide +kernel
theorem dX11_works_105 : decode cX11_works 105 = .ok (.iload 5, 2) := by decide +kernel
theorem dX11_works_107 : decode cX11_works 107 = .ok (.iadd, 1) := by decide +kernel
theorem dX11_works_108 : decode cX11_works 108 = .ok (.laload, 1) := by decide +kernel
theorem dX11_works_109 : decode cX11_works 109 = .ok (.lstore 8, 2) := by decide +kernel
theorem dX11_works_111 : decode cX11_works 111 = .ok (.aload_n 0, 1) := by decide +kernel
theorem dX11_works_112 : decode cX11_works 112 = .ok (.getfield 146, 3) := by decide +kernel
theorem dX11_works_115 : decode cX11_works 115 = .ok (.bipush 8, 2) := by decide +kernel
theorem dX11_works_117 : decode cX11_works 117 = .ok (.iload_n 2, 1) := by decide +kernel
theorem dX11_works_118 : decode cX11_works 118 = .ok (.iconst 1, 1) := by decide +kernel
theorem dX11_works_119 : decode cX11_works 119 = .ok (.isub, 1) := by decide +kernel
theorem dX11_works_120 : decode cX11_works 120 = .ok (.imul, 1) := by decide +kernel
theorem dX11_works_121 : decode cX11_works 121 = .ok (.iload 5, 2) := by decide +kernel
theorem dX11_works_123 : decode cX11_works 123 = .ok (.iadd, 1) := by decide +kernel
theorem dX11_works_124 : decode cX11_works 124 = .ok (.iload 4, 2) := by decide +kernel
theorem dX11_works_126 : decode cX11_works 126 = .ok (.iconst 5, 1) := by decide +kernel
theorem dX11_works_127 : decode cX11_works 127 = .ok (.if_icmp .ne 11, 3) := by decide +kernel
theorem dX11_works_130 : decode cX11_works 130 = .ok (.lload 6, 2) := by decide +kernel
theorem dX11_works_132 : decode cX11_works 132 = .ok (.lload 8, 2) := by decide +kernel
theorem dX11_works_134 : decode cX11_works 134 = .ok (.ladd, 1) := by decide +kernel
theorem dX11_works_135 : decode cX11_works 135 = .ok (.goto 48, 3) := by decide +kernel
theorem dX11_works_138 : decode cX11_works 138 = .ok (.iload 4, 2) := by decide +kernel
theorem dX11_works_140 : decode cX11_works 140 = .ok (.bipush 6, 2) := by decide +kernel
theorem dX11_works_142 : decode cX11_works 142 = .ok (.if_icmp .ne 11, 3) := by decide +kernel
theorem dX11_works_145 : decode cX11_works 145 = .ok (.lload 6, 2) := by decide +kernel
theorem dX11_works_147 : decode cX11_works 147 = .ok (.lload 8, 2) := by decide +kernel
theorem dX11_works_149 : decode cX11_works 149 = .ok (.lsub, 1) := by decide +kernel
theorem dX11_works_150 : decode cX11_works 150 = .ok (.goto 33, 3) := by decide +kernel
theorem dX11_works_153 : decode cX11_works 153 = .ok (.iload 4, 2) := by decide +kernel
theorem dX11_works_155 : decode cX11_works 155 = .ok (.bipush 7, 2) := by decide +kernel
theorem dX11_works_157 : decode cX11_works 157 = .ok (.if_icmp .ne 11, 3) := by decide +kernel
theorem dX11_works_160 : decode cX11_works 160 = .ok (.lload 6, 2) := by decide +kernel
theorem dX11_works_162 : decode cX11_works 162 = .ok (.lload 8, 2) := by decide +kernel
theorem dX11_works_164 : decode cX11_works 164 = .ok (.lmul, 1) := by decide +kernel
theorem dX11_works_165 : decode cX11_works 165 = .ok (.goto 18, 3) := by decide +kernel
theorem dX11_works_168 : decode cX11_works 168 = .ok (.lload 6, 2) := by decide +kernel
theorem dX11_works_170 : decode cX11_works 170 = .ok (.lload 8, 2) := by decide +kernel
theorem dX11_works_172 : decode cX11_works 172 = .ok (.lcmp, 1) := by decide +kernel
theorem dX11_works_173 : decode cX11_works 173 = .ok (.ifCond .le 8, 3) := by decide +kernel
theorem dX11_works_176 : decode cX11_works 176 = .ok (.lload 6, 2) := by decide +kernel
theorem dX11_works_178 : decode cX11_works 178 = .ok (.goto 5, 3) := by decide +kernel
theorem dX11_works_181 : decode cX11_works 181 = .ok (.lload 8, 2) := by decide +kernel
theorem dX11_works_183 : decode cX11_works 183 = .ok (.lastore, 1) := by decide +kernel
theorem dX11_works_184 : decode cX11_works 184 = .ok (.iinc 5 1, 3) := by decide +kernel
theorem dX11_works_187 : decode cX11_works 187 = .ok (.goto (-113), 3) := by decide +kernel
theorem dX11_works_190 : decode cX11_works 190 = .ok (.iinc 3 1, 3) := by decide +kernel
theorem dX11_works_193 : decode cX11_works 193 = .ok (.goto (-176), 3) := by decide +kernel
theorem dX11_works_196 : decode cX11_works 196 = .ok (.iconst 0, 1) := by decide +kernel
theorem dX11_works_197 : decode cX11_works 197 = .ok (.istore_n 3, 1) := by decide +kernel
theorem dX11_works_198 : decode cX11_works 198 = .ok (.iload_n 3, 1) := by decide +kernel
theorem dX11_works_199 : decode cX11_works 199 = .ok (.bipush 8, 2) := by decide +kernel
theorem dX11_works_201 : decode cX11_works 201 = .ok (.if_icmp .ge 26, 3) := by decide +kernel
theorem dX11_works_204 : decode cX11_works 204 = .ok (.aload_n 0, 1) := by decide +kernel
theorem dX11_works_205 : decode cX11_works 205 = .ok (.getfield 131, 3) := by decide +kernel
theorem dX11_works_208 : decode cX11_works 208 = .ok (.bipush 8, 2) := by decide +kernel
theorem dX11_works_210 : decode cX11_works 210 = .ok (.iload_n 1, 1) := by decide +kernel
theorem dX11_works_211 : decode cX11_works 211 = .ok (.imul, 1) := by decide +kernel
theorem dX11_works_212 : decode cX11_works 212 = .ok (.iload_n 3, 1) := by decide +kernel
theorem dX11_works_213 : decode cX11_works 213 = .ok (.iadd, 1) := by decide +kernel
theorem dX11_works_214 : decode cX11_works 214 = .ok (.aload_n 0, 1) := by decide +kernel
theorem dX11_works_215 : decode cX11_works 215 = .ok (.getfield 146, 3) := by decide +kernel
theorem dX11_works_218 : decode cX11_works 218 = .ok (.iload_n 3, 1) := by decide +kernel
theorem dX11_works_219 : decode cX11_works 219 = .ok (.laload, 1) := by decide +kernel
theorem dX11_works_220 : decode cX11_works 220 = .ok (.lastore, 1) := by decide +kernel
theorem dX11_works_221 : decode cX11_works 221 = .ok (.iinc 3 1, 3) := by decide +kernel
theorem dX11_works_224 : decode cX11_works 224 = .ok (.goto (-26), 3) := by decide +kernel
theorem dX11_works_227 : decode cX11_works 227 = .ok (.return_, 1) := by decide +kernel
theorem dX11_isAtHost_0 : decode cX11_isAtHost 0 = .ok (.iconst 0, 1) := by decide +kernel
theorem dX11_isAtHost_1 : decode cX11_isAtHost 1 = .ok (.istore_n 2, 1) := by decide +kernel
theorem dX11_isAtHost_2 : decode cX11_isAtHost 2 = .ok (.iload_n 2, 1) := by decide +kernel
theorem dX11_isAtHost_3 : decode cX11_isAtHost 3 = .ok (.iconst 3, 1) := by decide +kernel
theorem dX11_isAtHost_4 : decode cX11_isAtHost 4 = .ok (.if_icmp .ge 21, 3) := by decide +kernel
theorem dX11_isAtHost_7 : decode cX11_isAtHost 7 = .ok (.aload_n 0, 1) := by decide +kernel
theorem dX11_isAtHost_8 : decode cX11_isAtHost 8 = .ok (.getfield 116, 3) := by decide +kernel
theorem dX11_isAtHost_11 : decode cX11_isAtHost 11 = .ok (.iload_n 2, 1) := by decide +kernel
theorem dX11_isAtHost_12 : decode cX11_isAtHost 12 = .ok (.iaload, 1) := by decide +kernel
theorem dX11_isAtHost_13 : decode cX11_isAtHost 13 = .ok (.iload_n 1, 1) := by decide +kernel
theorem dX11_isAtHost_14 : decode cX11_isAtHost 14 = .ok (.if_icmp .ne 5, 3) := by decide +kernel
theorem dX11_isAtHost_17 : decode cX11_isAtHost 17 = .ok (.iconst 1, 1) := by decide +kernel
theorem dX11_isAtHost_18 : decode cX11_isAtHost 18 = .ok (.ireturn, 1) := by decide +kernel
theorem dX11_isAtHost_19 : decode cX11_isAtHost 19 = .ok (.iinc 2 1, 3) := by decide +kernel
theorem dX11_isAtHost_22 : decode cX11_isAtHost 22 = .ok (.goto (-20), 3) := by decide +kernel
theorem dX11_isAtHost_25 : decode cX11_isAtHost 25 = .ok (.iconst 0, 1) := by decide +kernel
theorem dX11_isAtHost_26 : decode cX11_isAtHost 26 = .ok (.ireturn, 1) := by decide +kernel
theorem dX11_isReady_0 : decode cX11_isReady 0 = .ok (.aload_n 0, 1) := by decide +kernel
theorem dX11_isReady_1 : decode cX11_isReady 1 = .ok (.getfield 122, 3) := by decide +kernel
theorem dX11_isReady_4 : decode cX11_isReady 4 = .ok (.iload_n 1, 1) := by decide +kernel
theorem dX11_isReady_5 : decode cX11_isReady 5 = .ok (.iaload, 1) := by decide +kernel
theorem dX11_isReady_6 : decode cX11_isReady 6 = .ok (.iconst (-1), 1) := by decide +kernel
theorem dX11_isReady_7 : decode cX11_isReady 7 = .ok (.if_icmp .ne 11, 3) := by decide +kernel
theorem dX11_isReady_10 : decode cX11_isReady 10 = .ok (.aload_n 0, 1) := by decide +kernel
theorem dX11_isReady_11 : decode cX11_isReady 11 = .ok (.iload_n 1, 1) := by decide +kernel
theorem dX11_isReady_12 : decode cX11_isReady 12 = .ok (.invokevirtual 311, 3) := by decide +kernel
theorem dX11_isReady_15 : decode cX11_isReady 15 = .ok (.ifCond .eq 5, 3) := by decide +kernel
theorem dX11_isReady_18 : decode cX11_isReady 18 = .ok (.iconst 0, 1) := by decide +kernel
theorem dX11_isReady_19 : decode cX11_isReady 19 = .ok (.ireturn, 1) := by decide +kernel
theorem dX11_isReady_20 : decode cX11_isReady 20 = .ok (.iconst 0, 1) := by decide +kernel
theorem dX11_isReady_21 : decode cX11_isReady 21 = .ok (.istore_n 2, 1) := by decide +kernel
theorem dX11_isReady_22 : decode cX11_isReady 22 = .ok (.iload_n 2, 1) := by decide +kernel
theorem dX11_isReady_23 : decode cX11_isReady 23 = .ok (.bipush 6, 2) := by decide +kernel
theorem dX11_isReady_25 : decode cX11_isReady 25 = .ok (.if_icmp .ge 42, 3) := by decide +kernel
theorem dX11_isReady_28 : decode cX11_isReady 28 = .ok (.aload_n 0, 1) := by decide +kernel
theorem dX11_isReady_29 : decode cX11_isReady 29 = .ok (.getfield 65, 3) := by decide +kernel
theorem dX11_isReady_32 : decode cX11_isReady 32 = .ok (.bipush 7, 2) := by decide +kernel
theorem dX11_isReady_34 : decode cX11_isReady 34 = .ok (.aload_n 0, 1) := by decide +kernel
theorem dX11_isReady_35 : decode cX11_isReady 35 = .ok (.getfield 234, 3) := by decide +kernel
theorem dX11_isReady_38 : decode cX11_isReady 38 = .ok (.imul, 1) := by decide +kernel
theorem dX11_isReady_39 : decode cX11_isReady 39 = .ok (.iload_n 1, 1) := by decide +kernel
theorem dX11_isReady_40 : decode cX11_isReady 40 = .ok (.iadd, 1) := by decide +kernel
theorem dX11_isReady_41 : decode cX11_isReady 41 = .ok (.iaload, 1) := by decide +kernel
theorem dX11_isReady_42 : decode cX11_isReady 42 = .ok (.iload_n 2, 1) := by decide +kernel
theorem dX11_isReady_43 : decode cX11_isReady 43 = .ok (.ishr, 1) := by decide +kernel
theorem dX11_isReady_44 : decode cX11_isReady 44 = .ok (.iconst 1, 1) := by decide +kernel
theorem dX11_isReady_45 : decode cX11_isReady 45 = .ok (.iand, 1) := by decide +kernel
theorem dX11_isReady_46 : decode cX11_isReady 46 = .ok (.iconst 1, 1) := by decide +kernel
theorem dX11_isReady_47 : decode cX11_isReady 47 = .ok (.if_icmp .ne 14, 3) := by decide +kernel
theorem dX11_isReady_50 : decode cX11_isReady 50 = .ok (.aload_n 0, 1) := by decide +kernel
theorem dX11_isReady_51 : decode cX11_isReady 51 = .ok (.getfield 89, 3) := by decide +kernel
theorem dX11_isReady_54 : decode cX11_isReady 54 = .ok (.iload_n 2, 1) := by decide +kernel
theorem dX11_isReady_55 : decode cX11_isReady 55 = .ok (.iaload, 1) := by decide +kernel
theorem dX11_isReady_56 : decode cX11_isReady 56 = .ok (.ifCond .ne 5, 3) := by decide +kernel
theorem dX11_isReady_59 : decode cX11_isReady 59 = .ok (.iconst 0, 1) := by decide +kernel
theorem dX11_isReady_60 : decode cX11_isReady 60 = .ok (.ireturn, 1) := by decide +kernel
theorem dX11_isReady_61 : decode cX11_isReady 61 = .ok (.iinc 2 1, 3) := by decide +kernel
theorem dX11_isReady_64 : decode cX11_isReady 64 = .ok (.goto (-42), 3) := by decide +kernel
theorem dX11_isReady_67 : decode cX11_isReady 67 = .ok (.iconst 0, 1) := by decide +kernel
theorem dX11_isReady_68 : decode cX11_isReady 68 = .ok (.istore_n 2, 1) := by decide +kernel
theorem dX11_isReady_69 : decode cX11_isReady 69 = .ok (.iload_n 2, 1) := by decide +kernel
theorem dX11_isReady_70 : decode cX11_isReady 70 = .ok (.iload_n 1, 1) := by decide +kernel
theorem dX11_isReady_71 : decode cX11_isReady 71 = .ok (.if_icmp .ge 43, 3) := by decide +kernel
theorem dX11_isReady_74 : decode cX11_isReady 74 = .ok (.aload_n 0, 1) := by decide +kernel
theorem dX11_isReady_75 : decode cX11_isReady 75 = .ok (.getfield 68, 3) := by decide +kernel
theorem dX11_isReady_78 : decode cX11_isReady 78 = .ok (.bipush 7, 2) := by decide +kernel
theorem dX11_isReady_80 : decode cX11_isReady 80 = .ok (.aload_n 0, 1) := by decide +kernel
theorem dX11_isReady_81 : decode cX11_isReady 81 = .ok (.getfield 234, 3) := by decide +kernel
theorem dX11_isReady_84 : decode cX11_isReady 84 = .ok (.imul, 1) := by decide +kernel
theorem dX11_isReady_85 : decode cX11_isReady 85 = .ok (.iload_n 1, 1) := by decide +kernel
theorem dX11_isReady_86 : decode cX11_isReady 86 = .ok (.iadd, 1) := by decide +kernel
theorem dX11_isReady_87 : decode cX11_isReady 87 = .ok (.iaload, 1) := by decide +kernel
theorem dX11_isReady_88 : decode cX11_isReady 88 = .ok (.iload_n 2, 1) := by decide +kernel
theorem dX11_isReady_89 : decode cX11_isReady 89 = .ok (.ishr, 1) := by decide +kernel
theorem dX11_isReady_90 : decode cX11_isReady 90 = .ok (.iconst 1, 1) := by decide +kernel
theorem dX11_isReady_91 : decode cX11_isReady 91 = .ok (.iand, 1) := by decide +kernel
theorem dX11_isReady_92 : decode cX11_isReady 92 = .ok (.iconst 1, 1) := by decide +kernel
theorem dX11_isReady_93 : decode cX11_isReady 93 = .ok (.if_icmp .ne 15, 3) := by decide +kernel
theorem dX11_isReady_96 : decode cX11_isReady 96 = .ok (.aload_n 0, 1) := by decide +kernel
theorem dX11_isReady_97 : decode cX11_isReady 97 = .ok (.getfield 122, 3) := by decide +kernel
theorem dX11_isReady_100 : decode cX11_isReady 100 = .ok (.iload_n 2, 1) := by decide +kernel
theorem dX11_isReady_101 : decode cX11_isReady 101 = .ok (.iaload, 1) := by decide +kernel
theorem dX11_isReady_102 : decode cX11_isReady 102 = .ok (.iconst (-1), 1) := by decide +kernel
theorem dX11_isReady_103 : decode cX11_isReady 103 = .ok (.if_icmp .ne 5, 3) := by decide +kernel
theorem dX11_isReady_106 : decode cX11_isReady 106 = .ok (.iconst 0, 1) := by decide +kernel
theorem dX11_isReady_107 : decode cX11_isReady 107 = .ok (.ireturn, 1) := by decide +kernel
theorem dX11_isReady_108 : decode cX11_isReady 108 = .ok (.iinc 2 1, 3) := by decide +kernel
theorem dX11_isReady_111 : decode cX11_isReady 111 = .ok (.goto (-42), 3) := by decide +kernel
theorem dX11_isReady_114 : decode cX11_isReady 114 = .ok (.iconst 1, 1) := by decide +kernel
theorem dX11_isReady_115 : decode cX11_isReady 115 = .ok (.ireturn, 1) := by decide +kernel
theorem dX11_tick_0 : decode cX11_tick 0 = .ok (.aload_n 0, 1) := by decide +kernel
theorem dX11_tick_1 : decode cX11_tick 1 = .ok (.getfield 314, 3) := by decide +kernel
theorem dX11_tick_4 : decode cX11_tick 4 = .ok (.sipush 399, 3) := by decide +kernel
theorem dX11_tick_7 : decode cX11_tick 7 = .ok (.if_icmp .ne 5, 3) := by decide +kernel
theorem dX11_tick_10 : decode cX11_tick 10 = .ok (.iconst (-1), 1) := by decide +kernel
theorem dX11_tick_11 : decode cX11_tick 11 = .ok (.ireturn, 1) := by decide +kernel
theorem dX11_tick_12 : decode cX11_tick 12 = .ok (.aload_n 0, 1) := by decide +kernel
theorem dX11_tick_13 : decode cX11_tick 13 = .ok (.dup, 1) := by decide +kernel
theorem dX11_tick_14 : decode cX11_tick 14 = .ok (.getfield 314, 3) := by decide +kernel
theorem dX11_tick_17 : decode cX11_tick 17 = .ok (.iconst 1, 1) := by decide +kernel
theorem dX11_tick_18 : decode cX11_tick 18 = .ok (.iadd, 1) := by decide +kernel
theorem dX11_tick_19 : decode cX11_tick 19 = .ok (.putfield 314, 3) := by decide +kernel
theorem dX11_tick_22 : decode cX11_tick 22 = .ok (.iconst 0, 1) := by decide +kernel
theorem dX11_tick_23 : decode cX11_tick 23 = .ok (.istore_n 1, 1) := by decide +kernel
theorem dX11_tick_24 : decode cX11_tick 24 = .ok (.iload_n 1, 1) := by decide +kernel
theorem dX11_tick_25 : decode cX11_tick 25 = .ok (.aload_n 0, 1) := by decide +kernel
theorem dX11_tick_26 : decode cX11_tick 26 = .ok (.getfield 168, 3) := by decide +kernel
theorem dX11_tick_29 : decode cX11_tick 29 = .ok (.if_icmp .ge 80, 3) := by decide +kernel
theorem dX11_tick_32 : decode cX11_tick 32 = .ok (.iconst 0, 1) := by decide +kernel
theorem dX11_tick_33 : decode cX11_tick 33 = .ok (.istore_n 2, 1) := by decide +kernel
theorem dX11_tick_34 : decode cX11_tick 34 = .ok (.iload_n 2, 1) := by decide +kernel
theorem dX11_tick_35 : decode cX11_tick 35 = .ok (.aload_n 0, 1) := by decide +kernel
theorem dX11_tick_36 : decode cX11_tick 36 = .ok (.getfield 40, 3) := by decide +kernel
theorem dX11_tick_39 : decode cX11_tick 39 = .ok (.aload_n 0, 1) := by decide +kernel
theorem dX11_tick_40 : decode cX11_tick 40 = .ok (.getfield 234, 3) := by decide +kernel
theorem dX11_tick_43 : decode cX11_tick 43 = .ok (.iaload, 1) := by decide +kernel
theorem dX11_tick_44 : decode cX11_tick 44 = .ok (.if_icmp .ge 59, 3) := by decide +kernel
theorem dX11_tick_47 : decode cX11_tick 47 = .ok (.aload_n 0, 1) := by decide +kernel
theorem dX11_tick_48 : decode cX11_tick 48 = .ok (.getfield 116, 3) := by decide +kernel
theorem dX11_tick_51 : decode cX11_tick 51 = .ok (.iload_n 1, 1) := by decide +kernel
theorem dX11_tick_52 : decode cX11_tick 52 = .ok (.iaload, 1) := by decide +kernel
theorem dX11_tick_53 : decode cX11_tick 53 = .ok (.iconst (-1), 1) := by decide +kernel
theorem dX11_tick_54 : decode cX11_tick 54 = .ok (.if_icmp .ne 49, 3) := by decide +kernel
theorem dX11_tick_57 : decode cX11_tick 57 = .ok (.aload_n 0, 1) := by decide +kernel
theorem dX11_tick_58 : decode cX11_tick 58 = .ok (.aload_n 0, 1) := by decide +kernel
theorem dX11_tick_59 : decode cX11_tick 59 = .ok (.getfield 119, 3) := by decide +kernel
theorem dX11_tick_62 : decode cX11_tick 62 = .ok (.iload_n 2, 1) := by decide +kernel
theorem dX11_tick_63 : decode cX11_tick 63 = .ok (.iaload, 1) := by decide +kernel
theorem dX11_tick_64 : decode cX11_tick 64 = .ok (.invokevirtual 317, 3) := by decide +kernel
theorem dX11_tick_67 : decode cX11_tick 67 = .ok (.ifCond .ne 6, 3) := by decide +kernel
theorem dX11_tick_70 : decode cX11_tick 70 = .ok (.goto 27, 3) := by decide +kernel
theorem dX11_tick_73 : decode cX11_tick 73 = .ok (.aload_n 0, 1) := by decide +kernel
theorem dX11_tick_74 : decode cX11_tick 74 = .ok (.getfield 116, 3) := by decide +kernel
theorem dX11_tick_77 : decode cX11_tick 77 = .ok (.iload_n 1, 1) := by decide +kernel
theorem dX11_tick_78 : decode cX11_tick 78 = .ok (.aload_n 0, 1) := by decide +kernel
theorem dX11_tick_79 : decode cX11_tick 79 = .ok (.getfield 119, 3) := by decide +kernel
theorem dX11_tick_82 : decode cX11_tick 82 = .ok (.iload_n 2, 1) := by decide +kernel
theorem dX11_tick_83 : decode cX11_tick 83 = .ok (.iaload, 1) := by decide +kernel
theorem dX11_tick_84 : decode cX11_tick 84 = .ok (.iastore, 1) := by decide +kernel
theorem dX11_tick_85 : decode cX11_tick 85 = .ok (.aload_n 0, 1) := by decide +kernel
theorem dX11_tick_86 : decode cX11_tick 86 = .ok (.getfield 128, 3) := by decide +kernel
theorem dX11_tick_89 : decode cX11_tick 89 = .ok (.aload_n 0, 1) := by decide +kernel
theorem dX11_tick_90 : decode cX11_tick 90 = .ok (.getfield 119, 3) := by decide +kernel
theorem dX11_tick_93 : decode cX11_tick 93 = .ok (.iload_n 2, 1) := by decide +kernel
theorem dX11_tick_94 : decode cX11_tick 94 = .ok (.iaload, 1) := by decide +kernel
theorem dX11_tick_95 : decode cX11_tick 95 = .ok (.iconst 0, 1) := by decide +kernel
theorem dX11_tick_96 : decode cX11_tick 96 = .ok (.iastore, 1) := by decide +kernel
theorem dX11_tick_97 : decode cX11_tick 97 = .ok (.iinc 2 1, 3) := by decide +kernel
theorem dX11_tick_100 : decode cX11_tick 100 = .ok (.goto (-66), 3) := by decide +kernel
theorem dX11_tick_103 : decode cX11_tick 103 = .ok (.iinc 1 1, 3) := by decide +kernel
theorem dX11_tick_106 : decode cX11_tick 106 = .ok (.goto (-82), 3) := by decide +kernel
theorem dX11_tick_109 : decode cX11_tick 109 = .ok (.iconst 0, 1) := by decide +kernel
theorem dX11_tick_110 : decode cX11_tick 110 = .ok (.istore_n 1, 1) := by decide +kernel
theorem dX11_tick_111 : decode cX11_tick 111 = .ok (.iload_n 1, 1) := by decide +kernel
theorem dX11_tick_112 : decode cX11_tick 112 = .ok (.aload_n 0, 1) := by decide +kernel
theorem dX11_tick_113 : decode cX11_tick 113 = .ok (.getfield 168, 3) := by decide +kernel
theorem dX11_tick_116 : decode cX11_tick 116 = .ok (.if_icmp .ge 147, 3) := by decide +kernel
theorem dX11_tick_119 : decode cX11_tick 119 = .ok (.aload_n 0, 1) := by decide +kernel
theorem dX11_tick_120 : decode cX11_tick 120 = .ok (.getfield 116, 3) := by decide +kernel
theorem dX11_tick_123 : decode cX11_tick 123 = .ok (.iload_n 1, 1) := by decide +kernel
theorem dX11_tick_124 : decode cX11_tick 124 = .ok (.iaload, 1) := by decide +kernel
theorem dX11_tick_125 : decode cX11_tick 125 = .ok (.istore_n 2, 1) := by decide +kernel
theorem dX11_tick_126 : decode cX11_tick 126 = .ok (.iload_n 2, 1) := by decide +kernel
theorem dX11_tick_127 : decode cX11_tick 127 = .ok (.iconst (-1), 1) := by decide +kernel
theorem dX11_tick_128 : decode cX11_tick 128 = .ok (.if_icmp .ne 6, 3) := by decide +kernel
theorem dX11_tick_131 : decode cX11_tick 131 = .ok (.goto 126, 3) := by decide +kernel
theorem dX11_tick_134 : decode cX11_tick 134 = .ok (.aload_n 0, 1) := by decide +kernel
theorem dX11_tick_135 : decode cX11_tick 135 = .ok (.getfield 128, 3) := by decide +kernel
theorem dX11_tick_138 : decode cX11_tick 138 = .ok (.iload_n 2, 1) := by decide +kernel
theorem dX11_tick_139 : decode cX11_tick 139 = .ok (.dup2, 1) := by decide +kernel
theorem dX11_tick_140 : decode cX11_tick 140 = .ok (.iaload, 1) := by decide +kernel
theorem dX11_tick_141 : decode cX11_tick 141 = .ok (.iconst 1, 1) := by decide +kernel
theorem dX11_tick_142 : decode cX11_tick 142 = .ok (.iadd, 1) := by decide +kernel
theorem dX11_tick_143 : decode cX11_tick 143 = .ok (.iastore, 1) := by decide +kernel
theorem dX11_tick_144 : decode cX11_tick 144 = .ok (.aload_n 0, 1) := by decide +kernel
theorem dX11_tick_145 : decode cX11_tick 145 = .ok (.getfield 128, 3) := by decide +kernel
theorem dX11_tick_148 : decode cX11_tick 148 = .ok (.iload_n 2, 1) := by decide +kernel
theorem dX11_tick_149 : decode cX11_tick 149 = .ok (.iaload, 1) := by decide +kernel
theorem dX11_tick_150 : decode cX11_tick 150 = .ok (.aload_n 0, 1) := by decide +kernel
theorem dX11_tick_151 : decode cX11_tick 151 = .ok (.getfield 50, 3) := by decide +kernel
theorem dX11_tick_154 : decode cX11_tick 154 = .ok (.bipush 7, 2) := by decide +kernel
theorem dX11_tick_156 : decode cX11_tick 156 = .ok (.aload_n 0, 1) := by decide +kernel
theorem dX11_tick_157 : decode cX11_tick 157 = .ok (.getfield 234, 3) := by decide +kernel
theorem dX11_tick_160 : decode cX11_tick 160 = .ok (.imul, 1) := by decide +kernel
theorem dX11_tick_161 : decode cX11_tick 161 = .ok (.iload_n 2, 1) := by decide +kernel
theorem dX11_tick_162 : decode cX11_tick 162 = .ok (.iadd, 1) := by decide +kernel
theorem dX11_tick_163 : decode cX11_tick 163 = .ok (.iaload, 1) := by decide +kernel
theorem dX11_tick_164 : decode cX11_tick 164 = .ok (.if_icmp .ge 6, 3) := by decide +kernel
theorem dX11_tick_167 : decode cX11_tick 167 = .ok (.goto 90, 3) := by decide +kernel
theorem dX11_tick_170 : decode cX11_tick 170 = .ok (.aload_n 0, 1) := by decide +kernel
theorem dX11_tick_171 : decode cX11_tick 171 = .ok (.getfield 116, 3) := by decide +kernel
theorem dX11_tick_174 : decode cX11_tick 174 = .ok (.iload_n 1, 1) := by decide +kernel
theorem dX11_tick_175 : decode cX11_tick 175 = .ok (.iconst (-1), 1) := by decide +kernel
theorem dX11_tick_176 : decode cX11_tick 176 = .ok (.iastore, 1) := by decide +kernel
theorem dX11_tick_177 : decode cX11_tick 177 = .ok (.aload_n 0, 1) := by decide +kernel
theorem dX11_tick_178 : decode cX11_tick 178 = .ok (.getfield 128, 3) := by decide +kernel
theorem dX11_tick_181 : decode cX11_tick 181 = .ok (.iload_n 2, 1) := by decide +kernel
theorem dX11_tick_182 : decode cX11_tick 182 = .ok (.iconst 0, 1) := by decide +kernel
theorem dX11_tick_183 : decode cX11_tick 183 = .ok (.iastore, 1) := by decide +kernel
theorem dX11_tick_184 : decode cX11_tick 184 = .ok (.aload_n 0, 1) := by decide +kernel
theorem dX11_tick_185 : decode cX11_tick 185 = .ok (.iload_n 2, 1) := by decide +kernel
theorem dX11_tick_186 : decode cX11_tick 186 = .ok (.invokevirtual 320, 3) := by decide +kernel
theorem dX11_tick_189 : decode cX11_tick 189 = .ok (.aload_n 0, 1) := by decide +kernel
theorem dX11_tick_190 : decode cX11_tick 190 = .ok (.getfield 122, 3) := by decide +kernel
theorem dX11_tick_193 : decode cX11_tick 193 = .ok (.iload_n 2, 1) := by decide +kernel
theorem dX11_tick_194 : decode cX11_tick 194 = .ok (.aload_n 0, 1) := by decide +kernel
theorem dX11_tick_195 : decode cX11_tick 195 = .ok (.getfield 314, 3) := by decide +kernel
theorem dX11_tick_198 : decode cX11_tick 198 = .ok (.iastore, 1) := by decide +kernel
theorem dX11_tick_199 : decode cX11_tick 199 = .ok (.aload_n 0, 1) := by decide +kernel
theorem dX11_tick_200 : decode cX11_tick 200 = .ok (.getfield 125, 3) := by decide +kernel
theorem dX11_tick_203 : decode cX11_tick 203 = .ok (.iload_n 2, 1) := by decide +kernel
theorem dX11_tick_204 : decode cX11_tick 204 = .ok (.dup2, 1) := by decide +kernel
theorem dX11_tick_205 : decode cX11_tick 205 = .ok (.iaload, 1) := by decide +kernel
theorem dX11_tick_206 : decode cX11_tick 206 = .ok (.iconst 1, 1) := by decide +kernel
theorem dX11_tick_207 : decode cX11_tick 207 = .ok (.iadd, 1) := by decide +kernel
theorem dX11_tick_208 : decode cX11_tick 208 = .ok (.iastore, 1) := by decide +kernel
theorem dX11_tick_209 : decode cX11_tick 209 = .ok (.aload_n 0, 1) := by decide +kernel
theorem dX11_tick_210 : decode cX11_tick 210 = .ok (.getfield 46, 3) := by decide +kernel
theorem dX11_tick_213 : decode cX11_tick 213 = .ok (.bipush 7, 2) := by decide +kernel
theorem dX11_tick_215 : decode cX11_tick 215 = .ok (.aload_n 0, 1) := by decide +kernel
theorem dX11_tick_216 : decode cX11_tick 216 = .ok (.getfield 234, 3) := by decide +kernel
theorem dX11_tick_219 : decode cX11_tick 219 = .ok (.imul, 1) := by decide +kernel
theorem dX11_tick_220 : decode cX11_tick 220 = .ok (.iload_n 2, 1) := by decide +kernel
theorem dX11_tick_221 : decode cX11_tick 221 = .ok (.iadd, 1) := by decide +kernel
theorem dX11_tick_222 : decode cX11_tick 222 = .ok (.baload, 1) := by decide +kernel
theorem dX11_tick_223 : decode cX11_tick 223 = .ok (.ifCond .eq 34, 3) := by decide +kernel
theorem dX11_tick_226 : decode cX11_tick 226 = .ok (.iconst 0, 1) := by decide +kernel
theorem dX11_tick_227 : decode cX11_tick 227 = .ok (.istore_n 3, 1) := by decide +kernel
theorem dX11_tick_228 : decode cX11_tick 228 = .ok (.iload_n 3, 1) := by decide +kernel
theorem dX11_tick_229 : decode cX11_tick 229 = .ok (.aload_n 0, 1) := by decide +kernel
theorem dX11_tick_230 : decode cX11_tick 230 = .ok (.getfield 289, 3) := by decide +kernel
theorem dX11_tick_233 : decode cX11_tick 233 = .ok (.if_icmp .ge 24, 3) := by decide +kernel
theorem dX11_tick_236 : decode cX11_tick 236 = .ok (.aload_n 0, 1) := by decide +kernel
theorem dX11_tick_237 : decode cX11_tick 237 = .ok (.getfield 113, 3) := by decide +kernel
theorem dX11_tick_240 : decode cX11_tick 240 = .ok (.iload_n 3, 1) := by decide +kernel
theorem dX11_tick_241 : decode cX11_tick 241 = .ok (.baload, 1) := by decide +kernel
theorem dX11_tick_242 : decode cX11_tick 242 = .ok (.ifCond .ne 9, 3) := by decide +kernel
theorem dX11_tick_245 : decode cX11_tick 245 = .ok (.aload_n 0, 1) := by decide +kernel
theorem dX11_tick_246 : decode cX11_tick 246 = .ok (.iload_n 2, 1) := by decide +kernel
theorem dX11_tick_247 : decode cX11_tick 247 = .ok (.iload_n 3, 1) := by decide +kernel
theorem dX11_tick_248 : decode cX11_tick 248 = .ok (.invokevirtual 298, 3) := by decide +kernel
theorem dX11_tick_251 : decode cX11_tick 251 = .ok (.iinc 3 1, 3) := by decide +kernel
theorem dX11_tick_254 : decode cX11_tick 254 = .ok (.goto (-26), 3) := by decide +kernel
theorem dX11_tick_257 : decode cX11_tick 257 = .ok (.iinc 1 1, 3) := by decide +kernel
theorem dX11_tick_260 : decode cX11_tick 260 = .ok (.goto (-149), 3) := by decide +kernel
theorem dX11_tick_263 : decode cX11_tick 263 = .ok (.aload_n 0, 1) := by decide +kernel
theorem dX11_tick_264 : decode cX11_tick 264 = .ok (.getfield 314, 3) := by decide +kernel
theorem dX11_tick_267 : decode cX11_tick 267 = .ok (.ireturn, 1) := by decide +kernel
theorem dX11_sends_0 : decode cX11_sends 0 = .ok (.bipush 6, 2) := by decide +kernel
theorem dX11_sends_2 : decode cX11_sends 2 = .ok (.iload_n 1, 1) := by decide +kernel
theorem dX11_sends_3 : decode cX11_sends 3 = .ok (.imul, 1) := by decide +kernel
theorem dX11_sends_4 : decode cX11_sends 4 = .ok (.iload_n 2, 1) := by decide +kernel
theorem dX11_sends_5 : decode cX11_sends 5 = .ok (.iadd, 1) := by decide +kernel
theorem dX11_sends_6 : decode cX11_sends 6 = .ok (.istore_n 3, 1) := by decide +kernel
theorem dX11_sends_7 : decode cX11_sends 7 = .ok (.aload_n 0, 1) := by decide +kernel
theorem dX11_sends_8 : decode cX11_sends 8 = .ok (.getfield 134, 3) := by decide +kernel
theorem dX11_sends_11 : decode cX11_sends 11 = .ok (.iload_n 3, 1) := by decide +kernel
theorem dX11_sends_12 : decode cX11_sends 12 = .ok (.baload, 1) := by decide +kernel
theorem dX11_sends_13 : decode cX11_sends 13 = .ok (.ifCond .ne 4, 3) := by decide +kernel
theorem dX11_sends_16 : decode cX11_sends 16 = .ok (.return_, 1) := by decide +kernel
theorem dX11_sends_17 : decode cX11_sends 17 = .ok (.aload_n 0, 1) := by decide +kernel
theorem dX11_sends_18 : decode cX11_sends 18 = .ok (.getfield 137, 3) := by decide +kernel
theorem dX11_sends_21 : decode cX11_sends 21 = .ok (.iload_n 3, 1) := by decide +kernel
theorem dX11_sends_22 : decode cX11_sends 22 = .ok (.baload, 1) := by decide +kernel
theorem dX11_sends_23 : decode cX11_sends 23 = .ok (.ifCond .ne 7, 3) := by decide +kernel
theorem dX11_sends_26 : decode cX11_sends 26 = .ok (.iconst 1, 1) := by decide +kernel
theorem dX11_sends_27 : decode cX11_sends 27 = .ok (.goto 4, 3) := by decide +kernel
theorem dX11_sends_30 : decode cX11_sends 30 = .ok (.iconst 0, 1) := by decide +kernel
theorem dX11_sends_31 : decode cX11_sends 31 = .ok (.istore 4, 2) := by decide +kernel
theorem dX11_sends_33 : decode cX11_sends 33 = .ok (.iconst 0, 1) := by decide +kernel
theorem dX11_sends_34 : decode cX11_sends 34 = .ok (.istore 5, 2) := by decide +kernel
theorem dX11_sends_36 : decode cX11_sends 36 = .ok (.iload 5, 2) := by decide +kernel
theorem dX11_sends_38 : decode cX11_sends 38 = .ok (.bipush 8, 2) := by decide +kernel
theorem dX11_sends_40 : decode cX11_sends 40 = .ok (.if_icmp .ge 72, 3) := by decide +kernel
theorem dX11_sends_43 : decode cX11_sends 43 = .ok (.aload_n 0, 1) := by decide +kernel
theorem dX11_sends_44 : decode cX11_sends 44 = .ok (.getfield 110, 3) := by decide +kernel
theorem dX11_sends_47 : decode cX11_sends 47 = .ok (.iload_n 2, 1) := by decide +kernel
theorem dX11_sends_48 : decode cX11_sends 48 = .ok (.iaload, 1) := by decide +kernel
theorem dX11_sends_49 : decode cX11_sends 49 = .ok (.iload 5, 2) := by decide +kernel
theorem dX11_sends_51 : decode cX11_sends 51 = .ok (.ishr, 1) := by decide +kernel
theorem dX11_sends_52 : decode cX11_sends 52 = .ok (.iconst 1, 1) := by decide +kernel
theorem dX11_sends_53 : decode cX11_sends 53 = .ok (.iand, 1) := by decide +kernel
theorem dX11_sends_54 : decode cX11_sends 54 = .ok (.iconst 1, 1) := by decide +kernel
theorem dX11_sends_55 : decode cX11_sends 55 = .ok (.if_icmp .ne 18, 3) := by decide +kernel
theorem dX11_sends_58 : decode cX11_sends 58 = .ok (.aload_n 0, 1) := by decide +kernel
theorem dX11_sends_59 : decode cX11_sends 59 = .ok (.getfield 131, 3) := by decide +kernel
theorem dX11_sends_62 : decode cX11_sends 62 = .ok (.bipush 8, 2) := by decide +kernel
theorem dX11_sends_64 : decode cX11_sends 64 = .ok (.iload_n 1, 1) := by decide +kernel
theorem dX11_sends_65 : decode cX11_sends 65 = .ok (.imul, 1) := by decide +kernel
theorem dX11_sends_66 : decode cX11_sends 66 = .ok (.iload 5, 2) := by decide +kernel
theorem dX11_sends_68 : decode cX11_sends 68 = .ok (.iadd, 1) := by decide +kernel
theorem dX11_sends_69 : decode cX11_sends 69 = .ok (.laload, 1) := by decide +kernel
theorem dX11_sends_70 : decode cX11_sends 70 = .ok (.goto 4, 3) := by decide +kernel
theorem dX11_sends_73 : decode cX11_sends 73 = .ok (.lconst 0, 1) := by decide +kernel
theorem dX11_sends_74 : decode cX11_sends 74 = .ok (.lstore 6, 2) := by decide +kernel
theorem dX11_sends_76 : decode cX11_sends 76 = .ok (.iload 4, 2) := by decide +kernel
theorem dX11_sends_78 : decode cX11_sends 78 = .ok (.ifCond .ne 21, 3) := by decide +kernel
theorem dX11_sends_81 : decode cX11_sends 81 = .ok (.lload 6, 2) := by decide +kernel
theorem dX11_sends_83 : decode cX11_sends 83 = .ok (.aload_n 0, 1) := by decide +kernel
theorem dX11_sends_84 : decode cX11_sends 84 = .ok (.getfield 143, 3) := by decide +kernel
theorem dX11_sends_87 : decode cX11_sends 87 = .ok (.bipush 8, 2) := by decide +kernel
theorem dX11_sends_89 : decode cX11_sends 89 = .ok (.iload_n 3, 1) := by decide +kernel
theorem dX11_sends_90 : decode cX11_sends 90 = .ok (.imul, 1) := by decide +kernel
theorem dX11_sends_91 : decode cX11_sends 91 = .ok (.iload 5, 2) := by decide +kernel
theorem dX11_sends_93 : decode cX11_sends 93 = .ok (.iadd, 1) := by decide +kernel
theorem dX11_sends_94 : decode cX11_sends 94 = .ok (.laload, 1) := by decide +kernel
theorem dX11_sends_95 : decode cX11_sends 95 = .ok (.lcmp, 1) := by decide +kernel
theorem dX11_sends_96 : decode cX11_sends 96 = .ok (.ifCond .eq 7, 3) := by decide +kernel
theorem dX11_sends_99 : decode cX11_sends 99 = .ok (.iconst 1, 1) := by decide +kernel
theorem dX11_sends_100 : decode cX11_sends 100 = .ok (.goto 4, 3) := by decide +kernel
theorem dX11_sends_103 : decode cX11_sends 103 = .ok (.iconst 0, 1) := by decide +kernel
theorem dX11_sends_104 : decode cX11_sends 104 = .ok (.istore 4, 2) := by decide +kernel
theorem dX11_sends_106 : decode cX11_sends 106 = .ok (.iinc 5 1, 3) := by decide +kernel
theorem dX11_sends_109 : decode cX11_sends 109 = .ok (.goto (-73), 3) := by decide +kernel
theorem dX11_sends_112 : decode cX11_sends 112 = .ok (.iload 4, 2) := by decide +kernel
theorem dX11_sends_114 : decode cX11_sends 114 = .ok (.ifCond .ne 4, 3) := by decide +kernel
theorem dX11_sends_117 : decode cX11_sends 117 = .ok (.return_, 1) := by decide +kernel
theorem dX11_sends_118 : decode cX11_sends 118 = .ok (.iconst 0, 1) := by decide +kernel
theorem dX11_sends_119 : decode cX11_sends 119 = .ok (.istore 5, 2) := by decide +kernel
theorem dX11_sends_121 : decode cX11_sends 121 = .ok (.iload 5, 2) := by decide +kernel
theorem dX11_sends_123 : decode cX11_sends 123 = .ok (.bipush 8, 2) := by decide +kernel
theorem dX11_sends_125 : decode cX11_sends 125 = .ok (.if_icmp .ge 52, 3) := by decide +kernel
theorem dX11_sends_128 : decode cX11_sends 128 = .ok (.aload_n 0, 1) := by decide +kernel
theorem dX11_sends_129 : decode cX11_sends 129 = .ok (.getfield 143, 3) := by decide +kernel
theorem dX11_sends_132 : decode cX11_sends 132 = .ok (.bipush 8, 2) := by decide +kernel
theorem dX11_sends_134 : decode cX11_sends 134 = .ok (.iload_n 3, 1) := by decide +kernel
theorem dX11_sends_135 : decode cX11_sends 135 = .ok (.imul, 1) := by decide +kernel
theorem dX11_sends_136 : decode cX11_sends 136 = .ok (.iload 5, 2) := by decide +kernel
theorem dX11_sends_138 : decode cX11_sends 138 = .ok (.iadd, 1) := by decide +kernel
theorem dX11_sends_139 : decode cX11_sends 139 = .ok (.aload_n 0, 1) := by decide +kernel
theorem dX11_sends_140 : decode cX11_sends 140 = .ok (.getfield 110, 3) := by decide +kernel
theorem dX11_sends_143 : decode cX11_sends 143 = .ok (.iload_n 2, 1) := by decide +kernel
theorem dX11_sends_144 : decode cX11_sends 144 = .ok (.iaload, 1) := by decide +kernel
theorem dX11_sends_145 : decode cX11_sends 145 = .ok (.iload 5, 2) := by decide +kernel
theorem dX11_sends_147 : decode cX11_sends 147 = .ok (.ishr, 1) := by decide +kernel
theorem dX11_sends_148 : decode cX11_sends 148 = .ok (.iconst 1, 1) := by decide +kernel
theorem dX11_sends_149 : decode cX11_sends 149 = .ok (.iand, 1) := by decide +kernel
theorem dX11_sends_150 : decode cX11_sends 150 = .ok (.iconst 1, 1) := by decide +kernel
theorem dX11_sends_151 : decode cX11_sends 151 = .ok (.if_icmp .ne 18, 3) := by decide +kernel
theorem dX11_sends_154 : decode cX11_sends 154 = .ok (.aload_n 0, 1) := by decide +kernel
theorem dX11_sends_155 : decode cX11_sends 155 = .ok (.getfield 131, 3) := by decide +kernel
theorem dX11_sends_158 : decode cX11_sends 158 = .ok (.bipush 8, 2) := by decide +kernel
theorem dX11_sends_160 : decode cX11_sends 160 = .ok (.iload_n 1, 1) := by decide +kernel
theorem dX11_sends_161 : decode cX11_sends 161 = .ok (.imul, 1) := by decide +kernel
theorem dX11_sends_162 : decode cX11_sends 162 = .ok (.iload 5, 2) := by decide +kernel
theorem dX11_sends_164 : decode cX11_sends 164 = .ok (.iadd, 1) := by decide +kernel
theorem dX11_sends_165 : decode cX11_sends 165 = .ok (.laload, 1) := by decide +kernel
theorem dX11_sends_166 : decode cX11_sends 166 = .ok (.goto 4, 3) := by decide +kernel
theorem dX11_sends_169 : decode cX11_sends 169 = .ok (.lconst 0, 1) := by decide +kernel
theorem dX11_sends_170 : decode cX11_sends 170 = .ok (.lastore, 1) := by decide +kernel
theorem dX11_sends_171 : decode cX11_sends 171 = .ok (.iinc 5 1, 3) := by decide +kernel
theorem dX11_sends_174 : decode cX11_sends 174 = .ok (.goto (-53), 3) := by decide +kernel
theorem dX11_sends_177 : decode cX11_sends 177 = .ok (.aload_n 0, 1) := by decide +kernel
theorem dX11_sends_178 : decode cX11_sends 178 = .ok (.getfield 137, 3) := by decide +kernel
theorem dX11_sends_181 : decode cX11_sends 181 = .ok (.iload_n 3, 1) := by decide +kernel
theorem dX11_sends_182 : decode cX11_sends 182 = .ok (.iconst 1, 1) := by decide +kernel
theorem dX11_sends_183 : decode cX11_sends 183 = .ok (.bastore, 1) := by decide +kernel
theorem dX11_sends_184 : decode cX11_sends 184 = .ok (.aload_n 0, 1) := by decide +kernel
theorem dX11_sends_185 : decode cX11_sends 185 = .ok (.getfield 140, 3) := by decide +kernel
theorem dX11_sends_188 : decode cX11_sends 188 = .ok (.iload_n 3, 1) := by decide +kernel
theorem dX11_sends_189 : decode cX11_sends 189 = .ok (.dup2, 1) := by decide +kernel
theorem dX11_sends_190 : decode cX11_sends 190 = .ok (.iaload, 1) := by decide +kernel
theorem dX11_sends_191 : decode cX11_sends 191 = .ok (.iconst 1, 1) := by decide +kernel
theorem dX11_sends_192 : decode cX11_sends 192 = .ok (.iadd, 1) := by decide +kernel
theorem dX11_sends_193 : decode cX11_sends 193 = .ok (.iastore, 1) := by decide +kernel
theorem dX11_sends_194 : decode cX11_sends 194 = .ok (.return_, 1) := by decide +kernel
theorem dX11_lands_0 : decode cX11_lands 0 = .ok (.iconst 0, 1) := by decide +kernel
theorem dX11_lands_1 : decode cX11_lands 1 = .ok (.istore_n 2, 1) := by decide +kernel
theorem dX11_lands_2 : decode cX11_lands 2 = .ok (.iload_n 2, 1) := by decide +kernel
theorem dX11_lands_3 : decode cX11_lands 3 = .ok (.bipush 6, 2) := by decide +kernel
theorem dX11_lands_5 : decode cX11_lands 5 = .ok (.if_icmp .ge 66, 3) := by decide +kernel
theorem dX11_lands_8 : decode cX11_lands 8 = .ok (.iload_n 1, 1) := by decide +kernel
theorem dX11_lands_9 : decode cX11_lands 9 = .ok (.ifCond .eq 12, 3) := by decide +kernel
theorem dX11_lands_12 : decode cX11_lands 12 = .ok (.aload_n 0, 1) := by decide +kernel
theorem dX11_lands_13 : decode cX11_lands 13 = .ok (.getfield 86, 3) := by decide +kernel
theorem dX11_lands_16 : decode cX11_lands 16 = .ok (.iload_n 2, 1) := by decide +kernel
theorem dX11_lands_17 : decode cX11_lands 17 = .ok (.iaload, 1) := by decide +kernel
theorem dX11_lands_18 : decode cX11_lands 18 = .ok (.goto 9, 3) := by decide +kernel
theorem dX11_lands_21 : decode cX11_lands 21 = .ok (.aload_n 0, 1) := by decide +kernel
theorem dX11_lands_22 : decode cX11_lands 22 = .ok (.getfield 83, 3) := by decide +kernel
theorem dX11_lands_25 : decode cX11_lands 25 = .ok (.iload_n 2, 1) := by decide +kernel
theorem dX11_lands_26 : decode cX11_lands 26 = .ok (.iaload, 1) := by decide +kernel
theorem dX11_lands_27 : decode cX11_lands 27 = .ok (.istore_n 3, 1) := by decide +kernel
theorem dX11_lands_28 : decode cX11_lands 28 = .ok (.aload_n 0, 1) := by decide +kernel
theorem dX11_lands_29 : decode cX11_lands 29 = .ok (.getfield 161, 3) := by decide +kernel
theorem dX11_lands_32 : decode cX11_lands 32 = .ok (.iload_n 2, 1) := by decide +kernel
theorem dX11_lands_33 : decode cX11_lands 33 = .ok (.aload_n 0, 1) := by decide +kernel
theorem dX11_lands_34 : decode cX11_lands 34 = .ok (.getfield 89, 3) := by decide +kernel
theorem dX11_lands_37 : decode cX11_lands 37 = .ok (.iload_n 2, 1) := by decide +kernel
theorem dX11_lands_38 : decode cX11_lands 38 = .ok (.iaload, 1) := by decide +kernel
theorem dX11_lands_39 : decode cX11_lands 39 = .ok (.ifCond .le 7, 3) := by decide +kernel
theorem dX11_lands_42 : decode cX11_lands 42 = .ok (.iconst 0, 1) := by decide +kernel
theorem dX11_lands_43 : decode cX11_lands 43 = .ok (.goto 21, 3) := by decide +kernel
theorem dX11_lands_46 : decode cX11_lands 46 = .ok (.iload_n 3, 1) := by decide +kernel
theorem dX11_lands_47 : decode cX11_lands 47 = .ok (.aload_n 0, 1) := by decide +kernel
theorem dX11_lands_48 : decode cX11_lands 48 = .ok (.getfield 314, 3) := by decide +kernel
theorem dX11_lands_51 : decode cX11_lands 51 = .ok (.if_icmp .le 7, 3) := by decide +kernel
theorem dX11_lands_54 : decode cX11_lands 54 = .ok (.iload_n 3, 1) := by decide +kernel
theorem dX11_lands_55 : decode cX11_lands 55 = .ok (.goto 9, 3) := by decide +kernel
theorem dX11_lands_58 : decode cX11_lands 58 = .ok (.aload_n 0, 1) := by decide +kernel
theorem dX11_lands_59 : decode cX11_lands 59 = .ok (.getfield 314, 3) := by decide +kernel
theorem dX11_lands_62 : decode cX11_lands 62 = .ok (.iconst 1, 1) := by decide +kernel
theorem dX11_lands_63 : decode cX11_lands 63 = .ok (.iadd, 1) := by decide +kernel
theorem dX11_lands_64 : decode cX11_lands 64 = .ok (.iastore, 1) := by decide +kernel
theorem dX11_lands_65 : decode cX11_lands 65 = .ok (.iinc 2 1, 3) := by decide +kernel
theorem dX11_lands_68 : decode cX11_lands 68 = .ok (.goto (-66), 3) := by decide +kernel
theorem dX11_lands_71 : decode cX11_lands 71 = .ok (.return_, 1) := by decide +kernel
theorem dX11_mayBegin_0 : decode cX11_mayBegin 0 = .ok (.aload_n 0, 1) := by decide +kernel
theorem dX11_mayBegin_1 : decode cX11_mayBegin 1 = .ok (.getfield 152, 3) := by decide +kernel
theorem dX11_mayBegin_4 : decode cX11_mayBegin 4 = .ok (.iload_n 1, 1) := by decide +kernel
theorem dX11_mayBegin_5 : decode cX11_mayBegin 5 = .ok (.iaload, 1) := by decide +kernel
theorem dX11_mayBegin_6 : decode cX11_mayBegin 6 = .ok (.iconst (-1), 1) := by decide +kernel
theorem dX11_mayBegin_7 : decode cX11_mayBegin 7 = .ok (.if_icmp .eq 5, 3) := by decide +kernel
theorem dX11_mayBegin_10 : decode cX11_mayBegin 10 = .ok (.iconst 0, 1) := by decide +kernel
theorem dX11_mayBegin_11 : decode cX11_mayBegin 11 = .ok (.ireturn, 1) := by decide +kernel
theorem dX11_mayBegin_12 : decode cX11_mayBegin 12 = .ok (.iconst 0, 1) := by decide +kernel
theorem dX11_mayBegin_13 : decode cX11_mayBegin 13 = .ok (.istore_n 3, 1) := by decide +kernel
theorem dX11_mayBegin_14 : decode cX11_mayBegin 14 = .ok (.iload_n 3, 1) := by decide +kernel
theorem dX11_mayBegin_15 : decode cX11_mayBegin 15 = .ok (.aload_n 0, 1) := by decide +kernel
theorem dX11_mayBegin_16 : decode cX11_mayBegin 16 = .ok (.getfield 168, 3) := by decide +kernel
theorem dX11_mayBegin_19 : decode cX11_mayBegin 19 = .ok (.if_icmp .ge 21, 3) := by decide +kernel
theorem dX11_mayBegin_22 : decode cX11_mayBegin 22 = .ok (.aload_n 0, 1) := by decide +kernel
theorem dX11_mayBegin_23 : decode cX11_mayBegin 23 = .ok (.getfield 155, 3) := by decide +kernel
theorem dX11_mayBegin_26 : decode cX11_mayBegin 26 = .ok (.iload_n 3, 1) := by decide +kernel
theorem dX11_mayBegin_27 : decode cX11_mayBegin 27 = .ok (.iaload, 1) := by decide +kernel
theorem dX11_mayBegin_28 : decode cX11_mayBegin 28 = .ok (.iload_n 1, 1) := by decide +kernel
theorem dX11_mayBegin_29 : decode cX11_mayBegin 29 = .ok (.if_icmp .ne 5, 3) := by decide +kernel
theorem dX11_mayBegin_32 : decode cX11_mayBegin 32 = .ok (.iconst 0, 1) := by decide +kernel
theorem dX11_mayBegin_33 : decode cX11_mayBegin 33 = .ok (.ireturn, 1) := by decide +kernel
theorem dX11_mayBegin_34 : decode cX11_mayBegin 34 = .ok (.iinc 3 1, 3) := by decide +kernel
theorem dX11_mayBegin_37 : decode cX11_mayBegin 37 = .ok (.goto (-23), 3) := by decide +kernel
theorem dX11_mayBegin_40 : decode cX11_mayBegin 40 = .ok (.iconst 0, 1) := by decide +kernel
theorem dX11_mayBegin_41 : decode cX11_mayBegin 41 = .ok (.istore_n 3, 1) := by decide +kernel
theorem dX11_mayBegin_42 : decode cX11_mayBegin 42 = .ok (.iload_n 3, 1) := by decide +kernel
theorem dX11_mayBegin_43 : decode cX11_mayBegin 43 = .ok (.bipush 6, 2) := by decide +kernel
theorem dX11_mayBegin_45 : decode cX11_mayBegin 45 = .ok (.if_icmp .ge 43, 3) := by decide +kernel
theorem dX11_mayBegin_48 : decode cX11_mayBegin 48 = .ok (.aload_n 0, 1) := by decide +kernel
theorem dX11_mayBegin_49 : decode cX11_mayBegin 49 = .ok (.getfield 65, 3) := by decide +kernel
theorem dX11_mayBegin_52 : decode cX11_mayBegin 52 = .ok (.bipush 7, 2) := by decide +kernel
theorem dX11_mayBegin_54 : decode cX11_mayBegin 54 = .ok (.aload_n 0, 1) := by decide +kernel
theorem dX11_mayBegin_55 : decode cX11_mayBegin 55 = .ok (.getfield 234, 3) := by decide +kernel
theorem dX11_mayBegin_58 : decode cX11_mayBegin 58 = .ok (.imul, 1) := by decide +kernel
theorem dX11_mayBegin_59 : decode cX11_mayBegin 59 = .ok (.iload_n 1, 1) := by decide +kernel
theorem dX11_mayBegin_60 : decode cX11_mayBegin 60 = .ok (.iadd, 1) := by decide +kernel
theorem dX11_mayBegin_61 : decode cX11_mayBegin 61 = .ok (.iaload, 1) := by decide +kernel
theorem dX11_mayBegin_62 : decode cX11_mayBegin 62 = .ok (.iload_n 3, 1) := by decide +kernel
theorem dX11_mayBegin_63 : decode cX11_mayBegin 63 = .ok (.ishr, 1) := by decide +kernel
theorem dX11_mayBegin_64 : decode cX11_mayBegin 64 = .ok (.iconst 1, 1) := by decide +kernel
theorem dX11_mayBegin_65 : decode cX11_mayBegin 65 = .ok (.iand, 1) := by decide +kernel
theorem dX11_mayBegin_66 : decode cX11_mayBegin 66 = .ok (.iconst 1, 1) := by decide +kernel
theorem dX11_mayBegin_67 : decode cX11_mayBegin 67 = .ok (.if_icmp .ne 15, 3) := by decide +kernel
theorem dX11_mayBegin_70 : decode cX11_mayBegin 70 = .ok (.aload_n 0, 1) := by decide +kernel
theorem dX11_mayBegin_71 : decode cX11_mayBegin 71 = .ok (.getfield 161, 3) := by decide +kernel
theorem dX11_mayBegin_74 : decode cX11_mayBegin 74 = .ok (.iload_n 3, 1) := by decide +kernel
theorem dX11_mayBegin_75 : decode cX11_mayBegin 75 = .ok (.iaload, 1) := by decide +kernel
theorem dX11_mayBegin_76 : decode cX11_mayBegin 76 = .ok (.iload_n 2, 1) := by decide +kernel
theorem dX11_mayBegin_77 : decode cX11_mayBegin 77 = .ok (.if_icmp .le 5, 3) := by decide +kernel
theorem dX11_mayBegin_80 : decode cX11_mayBegin 80 = .ok (.iconst 0, 1) := by decide +kernel
theorem dX11_mayBegin_81 : decode cX11_mayBegin 81 = .ok (.ireturn, 1) := by decide +kernel
theorem dX11_mayBegin_82 : decode cX11_mayBegin 82 = .ok (.iinc 3 1, 3) := by decide +kernel
theorem dX11_mayBegin_85 : decode cX11_mayBegin 85 = .ok (.goto (-43), 3) := by decide +kernel
theorem dX11_mayBegin_88 : decode cX11_mayBegin 88 = .ok (.iconst 0, 1) := by decide +kernel
theorem dX11_mayBegin_89 : decode cX11_mayBegin 89 = .ok (.istore_n 3, 1) := by decide +kernel
theorem dX11_mayBegin_90 : decode cX11_mayBegin 90 = .ok (.iload_n 3, 1) := by decide +kernel
theorem dX11_mayBegin_91 : decode cX11_mayBegin 91 = .ok (.iload_n 1, 1) := by decide +kernel
theorem dX11_mayBegin_92 : decode cX11_mayBegin 92 = .ok (.if_icmp .ge 43, 3) := by decide +kernel
theorem dX11_mayBegin_95 : decode cX11_mayBegin 95 = .ok (.aload_n 0, 1) := by decide +kernel
theorem dX11_mayBegin_96 : decode cX11_mayBegin 96 = .ok (.getfield 68, 3) := by decide +kernel
theorem dX11_mayBegin_99 : decode cX11_mayBegin 99 = .ok (.bipush 7, 2) := by decide +kernel
theorem dX11_mayBegin_101 : decode cX11_mayBegin 101 = .ok (.aload_n 0, 1) := by decide +kernel
theorem dX11_mayBegin_102 : decode cX11_mayBegin 102 = .ok (.getfield 234, 3) := by decide +kernel
theorem dX11_mayBegin_105 : decode cX11_mayBegin 105 = .ok (.imul, 1) := by decide +kernel
theorem dX11_mayBegin_106 : decode cX11_mayBegin 106 = .ok (.iload_n 1, 1) := by decide +kernel
theorem dX11_mayBegin_107 : decode cX11_mayBegin 107 = .ok (.iadd, 1) := by decide +kernel
theorem dX11_mayBegin_108 : decode cX11_mayBegin 108 = .ok (.iaload, 1) := by decide +kernel
theorem dX11_mayBegin_109 : decode cX11_mayBegin 109 = .ok (.iload_n 3, 1) := by decide +kernel
theorem dX11_mayBegin_110 : decode cX11_mayBegin 110 = .ok (.ishr, 1) := by decide +kernel
theorem dX11_mayBegin_111 : decode cX11_mayBegin 111 = .ok (.iconst 1, 1) := by decide +kernel
theorem dX11_mayBegin_112 : decode cX11_mayBegin 112 = .ok (.iand, 1) := by decide +kernel
theorem dX11_mayBegin_113 : decode cX11_mayBegin 113 = .ok (.iconst 1, 1) := by decide +kernel
theorem dX11_mayBegin_114 : decode cX11_mayBegin 114 = .ok (.if_icmp .ne 15, 3) := by decide +kernel
theorem dX11_mayBegin_117 : decode cX11_mayBegin 117 = .ok (.aload_n 0, 1) := by decide +kernel
theorem dX11_mayBegin_118 : decode cX11_mayBegin 118 = .ok (.getfield 152, 3) := by decide +kernel
theorem dX11_mayBegin_121 : decode cX11_mayBegin 121 = .ok (.iload_n 3, 1) := by decide +kernel
theorem dX11_mayBegin_122 : decode cX11_mayBegin 122 = .ok (.iaload, 1) := by decide +kernel
theorem dX11_mayBegin_123 : decode cX11_mayBegin 123 = .ok (.iconst (-1), 1) := by decide +kernel
theorem dX11_mayBegin_124 : decode cX11_mayBegin 124 = .ok (.if_icmp .ne 5, 3) := by decide +kernel
theorem dX11_mayBegin_127 : decode cX11_mayBegin 127 = .ok (.iconst 0, 1) := by decide +kernel
theorem dX11_mayBegin_128 : decode cX11_mayBegin 128 = .ok (.ireturn, 1) := by decide +kernel
theorem dX11_mayBegin_129 : decode cX11_mayBegin 129 = .ok (.iinc 3 1, 3) := by decide +kernel
theorem dX11_mayBegin_132 : decode cX11_mayBegin 132 = .ok (.goto (-42), 3) := by decide +kernel
theorem dX11_mayBegin_135 : decode cX11_mayBegin 135 = .ok (.iconst 1, 1) := by decide +kernel
theorem dX11_mayBegin_136 : decode cX11_mayBegin 136 = .ok (.ireturn, 1) := by decide +kernel
theorem dX11_foresees_0 : decode cX11_foresees 0 = .ok (.aload_n 0, 1) := by decide +kernel
theorem dX11_foresees_1 : decode cX11_foresees 1 = .ok (.iconst 1, 1) := by decide +kernel
theorem dX11_foresees_2 : decode cX11_foresees 2 = .ok (.invokevirtual 323, 3) := by decide +kernel
theorem dX11_foresees_5 : decode cX11_foresees 5 = .ok (.iconst 0, 1) := by decide +kernel
theorem dX11_foresees_6 : decode cX11_foresees 6 = .ok (.istore_n 1, 1) := by decide +kernel
theorem dX11_foresees_7 : decode cX11_foresees 7 = .ok (.iload_n 1, 1) := by decide +kernel
theorem dX11_foresees_8 : decode cX11_foresees 8 = .ok (.aload_n 0, 1) := by decide +kernel
theorem dX11_foresees_9 : decode cX11_foresees 9 = .ok (.getfield 40, 3) := by decide +kernel
theorem dX11_foresees_12 : decode cX11_foresees 12 = .ok (.aload_n 0, 1) := by decide +kernel
theorem dX11_foresees_13 : decode cX11_foresees 13 = .ok (.getfield 234, 3) := by decide +kernel
theorem dX11_foresees_16 : decode cX11_foresees 16 = .ok (.iaload, 1) := by decide +kernel
theorem dX11_foresees_17 : decode cX11_foresees 17 = .ok (.if_icmp .ge 33, 3) := by decide +kernel
theorem dX11_foresees_20 : decode cX11_foresees 20 = .ok (.aload_n 0, 1) := by decide +kernel
theorem dX11_foresees_21 : decode cX11_foresees 21 = .ok (.getfield 152, 3) := by decide +kernel
theorem dX11_foresees_24 : decode cX11_foresees 24 = .ok (.iload_n 1, 1) := by decide +kernel
theorem dX11_foresees_25 : decode cX11_foresees 25 = .ok (.aload_n 0, 1) := by decide +kernel
theorem dX11_foresees_26 : decode cX11_foresees 26 = .ok (.getfield 122, 3) := by decide +kernel
theorem dX11_foresees_29 : decode cX11_foresees 29 = .ok (.iload_n 1, 1) := by decide +kernel
theorem dX11_foresees_30 : decode cX11_foresees 30 = .ok (.iaload, 1) := by decide +kernel
theorem dX11_foresees_31 : decode cX11_foresees 31 = .ok (.iastore, 1) := by decide +kernel
theorem dX11_foresees_32 : decode cX11_foresees 32 = .ok (.aload_n 0, 1) := by decide +kernel
theorem dX11_foresees_33 : decode cX11_foresees 33 = .ok (.getfield 158, 3) := by decide +kernel
theorem dX11_foresees_36 : decode cX11_foresees 36 = .ok (.iload_n 1, 1) := by decide +kernel
theorem dX11_foresees_37 : decode cX11_foresees 37 = .ok (.aload_n 0, 1) := by decide +kernel
theorem dX11_foresees_38 : decode cX11_foresees 38 = .ok (.getfield 128, 3) := by decide +kernel
theorem dX11_foresees_41 : decode cX11_foresees 41 = .ok (.iload_n 1, 1) := by decide +kernel
theorem dX11_foresees_42 : decode cX11_foresees 42 = .ok (.iaload, 1) := by decide +kernel
theorem dX11_foresees_43 : decode cX11_foresees 43 = .ok (.iastore, 1) := by decide +kernel
theorem dX11_foresees_44 : decode cX11_foresees 44 = .ok (.iinc 1 1, 3) := by decide +kernel
theorem dX11_foresees_47 : decode cX11_foresees 47 = .ok (.goto (-40), 3) := by decide +kernel
theorem dX11_foresees_50 : decode cX11_foresees 50 = .ok (.iconst 0, 1) := by decide +kernel
theorem dX11_foresees_51 : decode cX11_foresees 51 = .ok (.istore_n 1, 1) := by decide +kernel
theorem dX11_foresees_52 : decode cX11_foresees 52 = .ok (.iload_n 1, 1) := by decide +kernel
theorem dX11_foresees_53 : decode cX11_foresees 53 = .ok (.iconst 3, 1) := by decide +kernel
theorem dX11_foresees_54 : decode cX11_foresees 54 = .ok (.if_icmp .ge 21, 3) := by decide +kernel
theorem dX11_foresees_57 : decode cX11_foresees 57 = .ok (.aload_n 0, 1) := by decide +kernel
theorem dX11_foresees_58 : decode cX11_foresees 58 = .ok (.getfield 155, 3) := by decide +kernel
theorem dX11_foresees_61 : decode cX11_foresees 61 = .ok (.iload_n 1, 1) := by decide +kernel
theorem dX11_foresees_62 : decode cX11_foresees 62 = .ok (.aload_n 0, 1) := by decide +kernel
theorem dX11_foresees_63 : decode cX11_foresees 63 = .ok (.getfield 116, 3) := by decide +kernel
theorem dX11_foresees_66 : decode cX11_foresees 66 = .ok (.iload_n 1, 1) := by decide +kernel
theorem dX11_foresees_67 : decode cX11_foresees 67 = .ok (.iaload, 1) := by decide +kernel
theorem dX11_foresees_68 : decode cX11_foresees 68 = .ok (.iastore, 1) := by decide +kernel
theorem dX11_foresees_69 : decode cX11_foresees 69 = .ok (.iinc 1 1, 3) := by decide +kernel
theorem dX11_foresees_72 : decode cX11_foresees 72 = .ok (.goto (-20), 3) := by decide +kernel
theorem dX11_foresees_75 : decode cX11_foresees 75 = .ok (.aload_n 0, 1) := by decide +kernel
theorem dX11_foresees_76 : decode cX11_foresees 76 = .ok (.getfield 314, 3) := by decide +kernel
theorem dX11_foresees_79 : decode cX11_foresees 79 = .ok (.iconst 1, 1) := by decide +kernel
theorem dX11_foresees_80 : decode cX11_foresees 80 = .ok (.iadd, 1) := by decide +kernel
theorem dX11_foresees_81 : decode cX11_foresees 81 = .ok (.istore_n 1, 1) := by decide +kernel
theorem dX11_foresees_82 : decode cX11_foresees 82 = .ok (.iload_n 1, 1) := by decide +kernel
theorem dX11_foresees_83 : decode cX11_foresees 83 = .ok (.sipush 399, 3) := by decide +kernel
theorem dX11_foresees_86 : decode cX11_foresees 86 = .ok (.if_icmp .gt 237, 3) := by decide +kernel
theorem dX11_foresees_89 : decode cX11_foresees 89 = .ok (.iconst 0, 1) := by decide +kernel
theorem dX11_foresees_90 : decode cX11_foresees 90 = .ok (.istore_n 2, 1) := by decide +kernel
theorem dX11_foresees_91 : decode cX11_foresees 91 = .ok (.iload_n 2, 1) := by decide +kernel
theorem dX11_foresees_92 : decode cX11_foresees 92 = .ok (.aload_n 0, 1) := by decide +kernel
theorem dX11_foresees_93 : decode cX11_foresees 93 = .ok (.getfield 168, 3) := by decide +kernel
theorem dX11_foresees_96 : decode cX11_foresees 96 = .ok (.if_icmp .ge 81, 3) := by decide +kernel
theorem dX11_foresees_99 : decode cX11_foresees 99 = .ok (.iconst 0, 1) := by decide +kernel
theorem dX11_foresees_100 : decode cX11_foresees 100 = .ok (.istore_n 3, 1) := by decide +kernel
theorem dX11_foresees_101 : decode cX11_foresees 101 = .ok (.iload_n 3, 1) := by decide +kernel
theorem dX11_foresees_102 : decode cX11_foresees 102 = .ok (.aload_n 0, 1) := by decide +kernel
theorem dX11_foresees_103 : decode cX11_foresees 103 = .ok (.getfield 40, 3) := by decide +kernel
theorem dX11_foresees_106 : decode cX11_foresees 106 = .ok (.aload_n 0, 1) := by decide +kernel
theorem dX11_foresees_107 : decode cX11_foresees 107 = .ok (.getfield 234, 3) := by decide +kernel
theorem dX11_foresees_110 : decode cX11_foresees 110 = .ok (.iaload, 1) := by decide +kernel
theorem dX11_foresees_111 : decode cX11_foresees 111 = .ok (.if_icmp .ge 60, 3) := by decide +kernel
theorem dX11_foresees_114 : decode cX11_foresees 114 = .ok (.aload_n 0, 1) := by decide +kernel
theorem dX11_foresees_115 : decode cX11_foresees 115 = .ok (.getfield 155, 3) := by decide +kernel
theorem dX11_foresees_118 : decode cX11_foresees 118 = .ok (.iload_n 2, 1) := by decide +kernel
theorem dX11_foresees_119 : decode cX11_foresees 119 = .ok (.iaload, 1) := by decide +kernel
theorem dX11_foresees_120 : decode cX11_foresees 120 = .ok (.iconst (-1), 1) := by decide +kernel
theorem dX11_foresees_121 : decode cX11_foresees 121 = .ok (.if_icmp .ne 50, 3) := by decide +kernel
theorem dX11_foresees_124 : decode cX11_foresees 124 = .ok (.aload_n 0, 1) := by decide +kernel
theorem dX11_foresees_125 : decode cX11_foresees 125 = .ok (.aload_n 0, 1) := by decide +kernel
theorem dX11_foresees_126 : decode cX11_foresees 126 = .ok (.getfield 149, 3) := by decide +kernel
theorem dX11_foresees_129 : decode cX11_foresees 129 = .ok (.iload_n 3, 1) := by decide +kernel
theorem dX11_foresees_130 : decode cX11_foresees 130 = .ok (.iaload, 1) := by decide +kernel
theorem dX11_foresees_131 : decode cX11_foresees 131 = .ok (.iload_n 1, 1) := by decide +kernel
theorem dX11_foresees_132 : decode cX11_foresees 132 = .ok (.invokevirtual 325, 3) := by decide +kernel
theorem dX11_foresees_135 : decode cX11_foresees 135 = .ok (.ifCond .ne 6, 3) := by decide +kernel
theorem dX11_foresees_138 : decode cX11_foresees 138 = .ok (.goto 27, 3) := by decide +kernel
theorem dX11_foresees_141 : decode cX11_foresees 141 = .ok (.aload_n 0, 1) := by decide +kernel
theorem dX11_foresees_142 : decode cX11_foresees 142 = .ok (.getfield 155, 3) := by decide +kernel
theorem dX11_foresees_145 : decode cX11_foresees 145 = .ok (.iload_n 2, 1) := by decide +kernel
theorem dX11_foresees_146 : decode cX11_foresees 146 = .ok (.aload_n 0, 1) := by decide +kernel
theorem dX11_foresees_147 : decode cX11_foresees 147 = .ok (.getfield 149, 3) := by decide +kernel
theorem dX11_foresees_150 : decode cX11_foresees 150 = .ok (.iload_n 3, 1) := by decide +kernel
theorem dX11_foresees_151 : decode cX11_foresees 151 = .ok (.iaload, 1) := by decide +kernel
theorem dX11_foresees_152 : decode cX11_foresees 152 = .ok (.iastore, 1) := by decide +kernel
theorem dX11_foresees_153 : decode cX11_foresees 153 = .ok (.aload_n 0, 1) := by decide +kernel
theorem dX11_foresees_154 : decode cX11_foresees 154 = .ok (.getfield 158, 3) := by decide +kernel
theorem dX11_foresees_157 : decode cX11_foresees 157 = .ok (.aload_n 0, 1) := by decide +kernel
theorem dX11_foresees_158 : decode cX11_foresees 158 = .ok (.getfield 149, 3) := by decide +kernel
theorem dX11_foresees_161 : decode cX11_foresees 161 = .ok (.iload_n 3, 1) := by decide +kernel
theorem dX11_foresees_162 : decode cX11_foresees 162 = .ok (.iaload, 1) := by decide +kernel
theorem dX11_foresees_163 : decode cX11_foresees 163 = .ok (.iconst 0, 1) := by decide +kernel
theorem dX11_foresees_164 : decode cX11_foresees 164 = .ok (.iastore, 1) := by decide +kernel
theorem dX11_foresees_165 : decode cX11_foresees 165 = .ok (.iinc 3 1, 3) := by decide +kernel
theorem dX11_foresees_168 : decode cX11_foresees 168 = .ok (.goto (-67), 3) := by decide +kernel
theorem dX11_foresees_171 : decode cX11_foresees 171 = .ok (.iinc 2 1, 3) := by decide +kernel
theorem dX11_foresees_174 : decode cX11_foresees 174 = .ok (.goto (-83), 3) := by decide +kernel
theorem dX11_foresees_177 : decode cX11_foresees 177 = .ok (.iconst 0, 1) := by decide +kernel
theorem dX11_foresees_178 : decode cX11_foresees 178 = .ok (.istore_n 2, 1) := by decide +kernel
theorem dX11_foresees_179 : decode cX11_foresees 179 = .ok (.iconst 0, 1) := by decide +kernel
theorem dX11_foresees_180 : decode cX11_foresees 180 = .ok (.istore_n 3, 1) := by decide +kernel
theorem dX11_foresees_181 : decode cX11_foresees 181 = .ok (.iload_n 3, 1) := by decide +kernel
theorem dX11_foresees_182 : decode cX11_foresees 182 = .ok (.aload_n 0, 1) := by decide +kernel
theorem dX11_foresees_183 : decode cX11_foresees 183 = .ok (.getfield 168, 3) := by decide +kernel
theorem dX11_foresees_186 : decode cX11_foresees 186 = .ok (.if_icmp .ge 29, 3) := by decide +kernel
theorem dX11_foresees_189 : decode cX11_foresees 189 = .ok (.iload_n 2, 1) := by decide +kernel
theorem dX11_foresees_190 : decode cX11_foresees 190 = .ok (.ifCond .ne 13, 3) := by decide +kernel
theorem dX11_foresees_193 : decode cX11_foresees 193 = .ok (.aload_n 0, 1) := by decide +kernel
theorem dX11_foresees_194 : decode cX11_foresees 194 = .ok (.getfield 155, 3) := by decide +kernel
theorem dX11_foresees_197 : decode cX11_foresees 197 = .ok (.iload_n 3, 1) := by decide +kernel
theorem dX11_foresees_198 : decode cX11_foresees 198 = .ok (.iaload, 1) := by decide +kernel
theorem dX11_foresees_199 : decode cX11_foresees 199 = .ok (.iconst (-1), 1) := by decide +kernel
theorem dX11_foresees_200 : decode cX11_foresees 200 = .ok (.if_icmp .eq 7, 3) := by decide +kernel
theorem dX11_foresees_203 : decode cX11_foresees 203 = .ok (.iconst 1, 1) := by decide +kernel
theorem dX11_foresees_204 : decode cX11_foresees 204 = .ok (.goto 4, 3) := by decide +kernel
theorem dX11_foresees_207 : decode cX11_foresees 207 = .ok (.iconst 0, 1) := by decide +kernel
theorem dX11_foresees_208 : decode cX11_foresees 208 = .ok (.istore_n 2, 1) := by decide +kernel
theorem dX11_foresees_209 : decode cX11_foresees 209 = .ok (.iinc 3 1, 3) := by decide +kernel
theorem dX11_foresees_212 : decode cX11_foresees 212 = .ok (.goto (-31), 3) := by decide +kernel
theorem dX11_foresees_215 : decode cX11_foresees 215 = .ok (.iload_n 2, 1) := by decide +kernel
theorem dX11_foresees_216 : decode cX11_foresees 216 = .ok (.ifCond .ne 14, 3) := by decide +kernel
theorem dX11_foresees_219 : decode cX11_foresees 219 = .ok (.aload_n 0, 1) := by decide +kernel
theorem dX11_foresees_220 : decode cX11_foresees 220 = .ok (.iload_n 1, 1) := by decide +kernel
theorem dX11_foresees_221 : decode cX11_foresees 221 = .ok (.invokevirtual 329, 3) := by decide +kernel
theorem dX11_foresees_224 : decode cX11_foresees 224 = .ok (.iconst 1, 1) := by decide +kernel
theorem dX11_foresees_225 : decode cX11_foresees 225 = .ok (.isub, 1) := by decide +kernel
theorem dX11_foresees_226 : decode cX11_foresees 226 = .ok (.istore_n 1, 1) := by decide +kernel
theorem dX11_foresees_227 : decode cX11_foresees 227 = .ok (.goto 90, 3) := by decide +kernel
theorem dX11_foresees_230 : decode cX11_foresees 230 = .ok (.iconst 0, 1) := by decide +kernel
theorem dX11_foresees_231 : decode cX11_foresees 231 = .ok (.istore_n 3, 1) := by decide +kernel
theorem dX11_foresees_232 : decode cX11_foresees 232 = .ok (.iload_n 3, 1) := by decide +kernel
theorem dX11_foresees_233 : decode cX11_foresees 233 = .ok (.aload_n 0, 1) := by decide +kernel
theorem dX11_foresees_234 : decode cX11_foresees 234 = .ok (.getfield 168, 3) := by decide +kernel
theorem dX11_foresees_237 : decode cX11_foresees 237 = .ok (.if_icmp .ge 80, 3) := by decide +kernel
theorem dX11_foresees_240 : decode cX11_foresees 240 = .ok (.aload_n 0, 1) := by decide +kernel
theorem dX11_foresees_241 : decode cX11_foresees 241 = .ok (.getfield 155, 3) := by decide +kernel
theorem dX11_foresees_244 : decode cX11_foresees 244 = .ok (.iload_n 3, 1) := by decide +kernel
theorem dX11_foresees_245 : decode cX11_foresees 245 = .ok (.iaload, 1) := by decide +kernel
theorem dX11_foresees_246 : decode cX11_foresees 246 = .ok (.istore 4, 2) := by decide +kernel
theorem dX11_foresees_248 : decode cX11_foresees 248 = .ok (.iload 4, 2) := by decide +kernel
theorem dX11_foresees_250 : decode cX11_foresees 250 = .ok (.iconst (-1), 1) := by decide +kernel
theorem dX11_foresees_251 : decode cX11_foresees 251 = .ok (.if_icmp .ne 6, 3) := by decide +kernel
theorem dX11_foresees_254 : decode cX11_foresees 254 = .ok (.goto 57, 3) := by decide +kernel
theorem dX11_foresees_257 : decode cX11_foresees 257 = .ok (.aload_n 0, 1) := by decide +kernel
theorem dX11_foresees_258 : decode cX11_foresees 258 = .ok (.getfield 158, 3) := by decide +kernel
theorem dX11_foresees_261 : decode cX11_foresees 261 = .ok (.iload 4, 2) := by decide +kernel
theorem dX11_foresees_263 : decode cX11_foresees 263 = .ok (.dup2, 1) := by decide +kernel
theorem dX11_foresees_264 : decode cX11_foresees 264 = .ok (.iaload, 1) := by decide +kernel
theorem dX11_foresees_265 : decode cX11_foresees 265 = .ok (.iconst 1, 1) := by decide +kernel
theorem dX11_foresees_266 : decode cX11_foresees 266 = .ok (.iadd, 1) := by decide +kernel
theorem dX11_foresees_267 : decode cX11_foresees 267 = .ok (.iastore, 1) := by decide +kernel
theorem dX11_foresees_268 : decode cX11_foresees 268 = .ok (.aload_n 0, 1) := by decide +kernel
theorem dX11_foresees_269 : decode cX11_foresees 269 = .ok (.getfield 158, 3) := by decide +kernel
theorem dX11_foresees_272 : decode cX11_foresees 272 = .ok (.iload 4, 2) := by decide +kernel
theorem dX11_foresees_274 : decode cX11_foresees 274 = .ok (.iaload, 1) := by decide +kernel
theorem dX11_foresees_275 : decode cX11_foresees 275 = .ok (.aload_n 0, 1) := by decide +kernel
theorem dX11_foresees_276 : decode cX11_foresees 276 = .ok (.getfield 50, 3) := by decide +kernel
theorem dX11_foresees_279 : decode cX11_foresees 279 = .ok (.bipush 7, 2) := by decide +kernel
theorem dX11_foresees_281 : decode cX11_foresees 281 = .ok (.aload_n 0, 1) := by decide +kernel
theorem dX11_foresees_282 : decode cX11_foresees 282 = .ok (.getfield 234, 3) := by decide +kernel
theorem dX11_foresees_285 : decode cX11_foresees 285 = .ok (.imul, 1) := by decide +kernel
theorem dX11_foresees_286 : decode cX11_foresees 286 = .ok (.iload 4, 2) := by decide +kernel
theorem dX11_foresees_288 : decode cX11_foresees 288 = .ok (.iadd, 1) := by decide +kernel
theorem dX11_foresees_289 : decode cX11_foresees 289 = .ok (.iaload, 1) := by decide +kernel
theorem dX11_foresees_290 : decode cX11_foresees 290 = .ok (.if_icmp .ge 6, 3) := by decide +kernel
theorem dX11_foresees_293 : decode cX11_foresees 293 = .ok (.goto 18, 3) := by decide +kernel
theorem dX11_foresees_296 : decode cX11_foresees 296 = .ok (.aload_n 0, 1) := by decide +kernel
theorem dX11_foresees_297 : decode cX11_foresees 297 = .ok (.getfield 155, 3) := by decide +kernel
theorem dX11_foresees_300 : decode cX11_foresees 300 = .ok (.iload_n 3, 1) := by decide +kernel
theorem dX11_foresees_301 : decode cX11_foresees 301 = .ok (.iconst (-1), 1) := by decide +kernel
theorem dX11_foresees_302 : decode cX11_foresees 302 = .ok (.iastore, 1) := by decide +kernel
theorem dX11_foresees_303 : decode cX11_foresees 303 = .ok (.aload_n 0, 1) := by decide +kernel
theorem dX11_foresees_304 : decode cX11_foresees 304 = .ok (.getfield 152, 3) := by decide +kernel
theorem dX11_foresees_307 : decode cX11_foresees 307 = .ok (.iload 4, 2) := by decide +kernel
theorem dX11_foresees_309 : decode cX11_foresees 309 = .ok (.iload_n 1, 1) := by decide +kernel
theorem dX11_foresees_310 : decode cX11_foresees 310 = .ok (.iastore, 1) := by decide +kernel
theorem dX11_foresees_311 : decode cX11_foresees 311 = .ok (.iinc 3 1, 3) := by decide +kernel
theorem dX11_foresees_314 : decode cX11_foresees 314 = .ok (.goto (-82), 3) := by decide +kernel
theorem dX11_foresees_317 : decode cX11_foresees 317 = .ok (.iinc 1 1, 3) := by decide +kernel
theorem dX11_foresees_320 : decode cX11_foresees 320 = .ok (.goto (-238), 3) := by decide +kernel
theorem dX11_foresees_323 : decode cX11_foresees 323 = .ok (.iconst 0, 1) := by decide +kernel
theorem dX11_foresees_324 : decode cX11_foresees 324 = .ok (.istore_n 1, 1) := by decide +kernel
theorem dX11_foresees_325 : decode cX11_foresees 325 = .ok (.iload_n 1, 1) := by decide +kernel
theorem dX11_foresees_326 : decode cX11_foresees 326 = .ok (.aload_n 0, 1) := by decide +kernel
theorem dX11_foresees_327 : decode cX11_foresees 327 = .ok (.getfield 40, 3) := by decide +kernel
theorem dX11_foresees_330 : decode cX11_foresees 330 = .ok (.aload_n 0, 1) := by decide +kernel
theorem dX11_foresees_331 : decode cX11_foresees 331 = .ok (.getfield 234, 3) := by decide +kernel
theorem dX11_foresees_334 : decode cX11_foresees 334 = .ok (.iaload, 1) := by decide +kernel
theorem dX11_foresees_335 : decode cX11_foresees 335 = .ok (.if_icmp .ge 28, 3) := by decide +kernel
theorem dX11_foresees_338 : decode cX11_foresees 338 = .ok (.aload_n 0, 1) := by decide +kernel
theorem dX11_foresees_339 : decode cX11_foresees 339 = .ok (.getfield 152, 3) := by decide +kernel
theorem dX11_foresees_342 : decode cX11_foresees 342 = .ok (.iload_n 1, 1) := by decide +kernel
theorem dX11_foresees_343 : decode cX11_foresees 343 = .ok (.iaload, 1) := by decide +kernel
theorem dX11_foresees_344 : decode cX11_foresees 344 = .ok (.iconst (-1), 1) := by decide +kernel
theorem dX11_foresees_345 : decode cX11_foresees 345 = .ok (.if_icmp .ne 12, 3) := by decide +kernel
theorem dX11_foresees_348 : decode cX11_foresees 348 = .ok (.aload_n 0, 1) := by decide +kernel
theorem dX11_foresees_349 : decode cX11_foresees 349 = .ok (.getfield 152, 3) := by decide +kernel
theorem dX11_foresees_352 : decode cX11_foresees 352 = .ok (.iload_n 1, 1) := by decide +kernel
theorem dX11_foresees_353 : decode cX11_foresees 353 = .ok (.sipush 400, 3) := by decide +kernel
theorem dX11_foresees_356 : decode cX11_foresees 356 = .ok (.iastore, 1) := by decide +kernel
theorem dX11_foresees_357 : decode cX11_foresees 357 = .ok (.iinc 1 1, 3) := by decide +kernel
theorem dX11_foresees_360 : decode cX11_foresees 360 = .ok (.goto (-35), 3) := by decide +kernel
theorem dX11_foresees_363 : decode cX11_foresees 363 = .ok (.return_, 1) := by decide +kernel
theorem dX11_landsBehind_0 : decode cX11_landsBehind 0 = .ok (.sipush 401, 3) := by decide +kernel
theorem dX11_landsBehind_3 : decode cX11_landsBehind 3 = .ok (.istore_n 2, 1) := by decide +kernel
theorem dX11_landsBehind_4 : decode cX11_landsBehind 4 = .ok (.iconst 0, 1) := by decide +kernel
theorem dX11_landsBehind_5 : decode cX11_landsBehind 5 = .ok (.istore_n 3, 1) := by decide +kernel
theorem dX11_landsBehind_6 : decode cX11_landsBehind 6 = .ok (.iload_n 3, 1) := by decide +kernel
theorem dX11_landsBehind_7 : decode cX11_landsBehind 7 = .ok (.bipush 6, 2) := by decide +kernel
theorem dX11_landsBehind_9 : decode cX11_landsBehind 9 = .ok (.if_icmp .ge 36, 3) := by decide +kernel
theorem dX11_landsBehind_12 : decode cX11_landsBehind 12 = .ok (.aload_n 0, 1) := by decide +kernel
theorem dX11_landsBehind_13 : decode cX11_landsBehind 13 = .ok (.getfield 161, 3) := by decide +kernel
theorem dX11_landsBehind_16 : decode cX11_landsBehind 16 = .ok (.iload_n 3, 1) := by decide +kernel
theorem dX11_landsBehind_17 : decode cX11_landsBehind 17 = .ok (.iaload, 1) := by decide +kernel
theorem dX11_landsBehind_18 : decode cX11_landsBehind 18 = .ok (.iload_n 1, 1) := by decide +kernel
theorem dX11_landsBehind_19 : decode cX11_landsBehind 19 = .ok (.if_icmp .le 20, 3) := by decide +kernel
theorem dX11_landsBehind_22 : decode cX11_landsBehind 22 = .ok (.aload_n 0, 1) := by decide +kernel
theorem dX11_landsBehind_23 : decode cX11_landsBehind 23 = .ok (.getfield 161, 3) := by decide +kernel
theorem dX11_landsBehind_26 : decode cX11_landsBehind 26 = .ok (.iload_n 3, 1) := by decide +kernel
theorem dX11_landsBehind_27 : decode cX11_landsBehind 27 = .ok (.iaload, 1) := by decide +kernel
theorem dX11_landsBehind_28 : decode cX11_landsBehind 28 = .ok (.iload_n 2, 1) := by decide +kernel
theorem dX11_landsBehind_29 : decode cX11_landsBehind 29 = .ok (.if_icmp .ge 10, 3) := by decide +kernel
theorem dX11_landsBehind_32 : decode cX11_landsBehind 32 = .ok (.aload_n 0, 1) := by decide +kernel
theorem dX11_landsBehind_33 : decode cX11_landsBehind 33 = .ok (.getfield 161, 3) := by decide +kernel
theorem dX11_landsBehind_36 : decode cX11_landsBehind 36 = .ok (.iload_n 3, 1) := by decide +kernel
theorem dX11_landsBehind_37 : decode cX11_landsBehind 37 = .ok (.iaload, 1) := by decide +kernel
theorem dX11_landsBehind_38 : decode cX11_landsBehind 38 = .ok (.istore_n 2, 1) := by decide +kernel
theorem dX11_landsBehind_39 : decode cX11_landsBehind 39 = .ok (.iinc 3 1, 3) := by decide +kernel
theorem dX11_landsBehind_42 : decode cX11_landsBehind 42 = .ok (.goto (-36), 3) := by decide +kernel
theorem dX11_landsBehind_45 : decode cX11_landsBehind 45 = .ok (.iload_n 2, 1) := by decide +kernel
theorem dX11_landsBehind_46 : decode cX11_landsBehind 46 = .ok (.ireturn, 1) := by decide +kernel
theorem dX11_lates_0 : decode cX11_lates 0 = .ok (.iconst 0, 1) := by decide +kernel
theorem dX11_lates_1 : decode cX11_lates 1 = .ok (.istore_n 1, 1) := by decide +kernel
theorem dX11_lates_2 : decode cX11_lates 2 = .ok (.iconst 0, 1) := by decide +kernel
theorem dX11_lates_3 : decode cX11_lates 3 = .ok (.istore_n 2, 1) := by decide +kernel
theorem dX11_lates_4 : decode cX11_lates 4 = .ok (.iload_n 2, 1) := by decide +kernel
theorem dX11_lates_5 : decode cX11_lates 5 = .ok (.aload_n 0, 1) := by decide +kernel
theorem dX11_lates_6 : decode cX11_lates 6 = .ok (.getfield 40, 3) := by decide +kernel
theorem dX11_lates_9 : decode cX11_lates 9 = .ok (.aload_n 0, 1) := by decide +kernel
theorem dX11_lates_10 : decode cX11_lates 10 = .ok (.getfield 234, 3) := by decide +kernel
theorem dX11_lates_13 : decode cX11_lates 13 = .ok (.iaload, 1) := by decide +kernel
theorem dX11_lates_14 : decode cX11_lates 14 = .ok (.if_icmp .ge 71, 3) := by decide +kernel
theorem dX11_lates_17 : decode cX11_lates 17 = .ok (.aload_n 0, 1) := by decide +kernel
theorem dX11_lates_18 : decode cX11_lates 18 = .ok (.getfield 152, 3) := by decide +kernel
theorem dX11_lates_21 : decode cX11_lates 21 = .ok (.iload_n 2, 1) := by decide +kernel
theorem dX11_lates_22 : decode cX11_lates 22 = .ok (.iaload, 1) := by decide +kernel
theorem dX11_lates_23 : decode cX11_lates 23 = .ok (.aload_n 0, 1) := by decide +kernel
theorem dX11_lates_24 : decode cX11_lates 24 = .ok (.getfield 53, 3) := by decide +kernel
theorem dX11_lates_27 : decode cX11_lates 27 = .ok (.bipush 7, 2) := by decide +kernel
theorem dX11_lates_29 : decode cX11_lates 29 = .ok (.aload_n 0, 1) := by decide +kernel
theorem dX11_lates_30 : decode cX11_lates 30 = .ok (.getfield 234, 3) := by decide +kernel
theorem dX11_lates_33 : decode cX11_lates 33 = .ok (.imul, 1) := by decide +kernel
theorem dX11_lates_34 : decode cX11_lates 34 = .ok (.iload_n 2, 1) := by decide +kernel
theorem dX11_lates_35 : decode cX11_lates 35 = .ok (.iadd, 1) := by decide +kernel
theorem dX11_lates_36 : decode cX11_lates 36 = .ok (.iaload, 1) := by decide +kernel
theorem dX11_lates_37 : decode cX11_lates 37 = .ok (.isub, 1) := by decide +kernel
theorem dX11_lates_38 : decode cX11_lates 38 = .ok (.istore_n 3, 1) := by decide +kernel
theorem dX11_lates_39 : decode cX11_lates 39 = .ok (.aload_n 0, 1) := by decide +kernel
theorem dX11_lates_40 : decode cX11_lates 40 = .ok (.getfield 46, 3) := by decide +kernel
theorem dX11_lates_43 : decode cX11_lates 43 = .ok (.bipush 7, 2) := by decide +kernel
theorem dX11_lates_45 : decode cX11_lates 45 = .ok (.aload_n 0, 1) := by decide +kernel
theorem dX11_lates_46 : decode cX11_lates 46 = .ok (.getfield 234, 3) := by decide +kernel
theorem dX11_lates_49 : decode cX11_lates 49 = .ok (.imul, 1) := by decide +kernel
theorem dX11_lates_50 : decode cX11_lates 50 = .ok (.iload_n 2, 1) := by decide +kernel
theorem dX11_lates_51 : decode cX11_lates 51 = .ok (.iadd, 1) := by decide +kernel
theorem dX11_lates_52 : decode cX11_lates 52 = .ok (.baload, 1) := by decide +kernel
theorem dX11_lates_53 : decode cX11_lates 53 = .ok (.ifCond .eq 26, 3) := by decide +kernel
theorem dX11_lates_56 : decode cX11_lates 56 = .ok (.iload_n 3, 1) := by decide +kernel
theorem dX11_lates_57 : decode cX11_lates 57 = .ok (.ifCond .le 22, 3) := by decide +kernel
theorem dX11_lates_60 : decode cX11_lates 60 = .ok (.iload_n 1, 1) := by decide +kernel
theorem dX11_lates_61 : decode cX11_lates 61 = .ok (.iload_n 3, 1) := by decide +kernel
theorem dX11_lates_62 : decode cX11_lates 62 = .ok (.aload_n 0, 1) := by decide +kernel
theorem dX11_lates_63 : decode cX11_lates 63 = .ok (.getfield 56, 3) := by decide +kernel
theorem dX11_lates_66 : decode cX11_lates 66 = .ok (.bipush 7, 2) := by decide +kernel
theorem dX11_lates_68 : decode cX11_lates 68 = .ok (.aload_n 0, 1) := by decide +kernel
theorem dX11_lates_69 : decode cX11_lates 69 = .ok (.getfield 234, 3) := by decide +kernel
theorem dX11_lates_72 : decode cX11_lates 72 = .ok (.imul, 1) := by decide +kernel
theorem dX11_lates_73 : decode cX11_lates 73 = .ok (.iload_n 2, 1) := by decide +kernel
theorem dX11_lates_74 : decode cX11_lates 74 = .ok (.iadd, 1) := by decide +kernel
theorem dX11_lates_75 : decode cX11_lates 75 = .ok (.iaload, 1) := by decide +kernel
theorem dX11_lates_76 : decode cX11_lates 76 = .ok (.imul, 1) := by decide +kernel
theorem dX11_lates_77 : decode cX11_lates 77 = .ok (.iadd, 1) := by decide +kernel
theorem dX11_lates_78 : decode cX11_lates 78 = .ok (.istore_n 1, 1) := by decide +kernel
theorem dX11_lates_79 : decode cX11_lates 79 = .ok (.iinc 2 1, 3) := by decide +kernel
theorem dX11_lates_82 : decode cX11_lates 82 = .ok (.goto (-78), 3) := by decide +kernel
theorem dX11_lates_85 : decode cX11_lates 85 = .ok (.iload_n 1, 1) := by decide +kernel
theorem dX11_lates_86 : decode cX11_lates 86 = .ok (.ireturn, 1) := by decide +kernel
theorem dX11_nextRow_0 : decode cX11_nextRow 0 = .ok (.iload_n 1, 1) := by decide +kernel
theorem dX11_nextRow_1 : decode cX11_nextRow 1 = .ok (.iconst 2, 1) := by decide +kernel
theorem dX11_nextRow_2 : decode cX11_nextRow 2 = .ok (.isub, 1) := by decide +kernel
theorem dX11_nextRow_3 : decode cX11_nextRow 3 = .ok (.istore_n 2, 1) := by decide +kernel
theorem dX11_nextRow_4 : decode cX11_nextRow 4 = .ok (.iload_n 2, 1) := by decide +kernel
theorem dX11_nextRow_5 : decode cX11_nextRow 5 = .ok (.ifCond .lt 26, 3) := by decide +kernel
theorem dX11_nextRow_8 : decode cX11_nextRow 8 = .ok (.aload_n 0, 1) := by decide +kernel
theorem dX11_nextRow_9 : decode cX11_nextRow 9 = .ok (.getfield 149, 3) := by decide +kernel
theorem dX11_nextRow_12 : decode cX11_nextRow 12 = .ok (.iload_n 2, 1) := by decide +kernel
theorem dX11_nextRow_13 : decode cX11_nextRow 13 = .ok (.iaload, 1) := by decide +kernel
theorem dX11_nextRow_14 : decode cX11_nextRow 14 = .ok (.aload_n 0, 1) := by decide +kernel
theorem dX11_nextRow_15 : decode cX11_nextRow 15 = .ok (.getfield 149, 3) := by decide +kernel
theorem dX11_nextRow_18 : decode cX11_nextRow 18 = .ok (.iload_n 2, 1) := by decide +kernel
theorem dX11_nextRow_19 : decode cX11_nextRow 19 = .ok (.iconst 1, 1) := by decide +kernel
theorem dX11_nextRow_20 : decode cX11_nextRow 20 = .ok (.iadd, 1) := by decide +kernel
theorem dX11_nextRow_21 : decode cX11_nextRow 21 = .ok (.iaload, 1) := by decide +kernel
theorem dX11_nextRow_22 : decode cX11_nextRow 22 = .ok (.if_icmp .le 9, 3) := by decide +kernel
theorem dX11_nextRow_25 : decode cX11_nextRow 25 = .ok (.iinc 2 (-1), 3) := by decide +kernel
theorem dX11_nextRow_28 : decode cX11_nextRow 28 = .ok (.goto (-24), 3) := by decide +kernel
theorem dX11_nextRow_31 : decode cX11_nextRow 31 = .ok (.iload_n 2, 1) := by decide +kernel
theorem dX11_nextRow_32 : decode cX11_nextRow 32 = .ok (.ifCond .ge 5, 3) := by decide +kernel
theorem dX11_nextRow_35 : decode cX11_nextRow 35 = .ok (.iconst 0, 1) := by decide +kernel
theorem dX11_nextRow_36 : decode cX11_nextRow 36 = .ok (.ireturn, 1) := by decide +kernel
theorem dX11_nextRow_37 : decode cX11_nextRow 37 = .ok (.iload_n 1, 1) := by decide +kernel
theorem dX11_nextRow_38 : decode cX11_nextRow 38 = .ok (.iconst 1, 1) := by decide +kernel
theorem dX11_nextRow_39 : decode cX11_nextRow 39 = .ok (.isub, 1) := by decide +kernel
theorem dX11_nextRow_40 : decode cX11_nextRow 40 = .ok (.istore_n 3, 1) := by decide +kernel
theorem dX11_nextRow_41 : decode cX11_nextRow 41 = .ok (.aload_n 0, 1) := by decide +kernel
theorem dX11_nextRow_42 : decode cX11_nextRow 42 = .ok (.getfield 149, 3) := by decide +kernel
theorem dX11_nextRow_45 : decode cX11_nextRow 45 = .ok (.iload_n 3, 1) := by decide +kernel
theorem dX11_nextRow_46 : decode cX11_nextRow 46 = .ok (.iaload, 1) := by decide +kernel
theorem dX11_nextRow_47 : decode cX11_nextRow 47 = .ok (.aload_n 0, 1) := by decide +kernel
theorem dX11_nextRow_48 : decode cX11_nextRow 48 = .ok (.getfield 149, 3) := by decide +kernel
theorem dX11_nextRow_51 : decode cX11_nextRow 51 = .ok (.iload_n 2, 1) := by decide +kernel
theorem dX11_nextRow_52 : decode cX11_nextRow 52 = .ok (.iaload, 1) := by decide +kernel
theorem dX11_nextRow_53 : decode cX11_nextRow 53 = .ok (.if_icmp .ge 9, 3) := by decide +kernel
theorem dX11_nextRow_56 : decode cX11_nextRow 56 = .ok (.iinc 3 (-1), 3) := by decide +kernel
theorem dX11_nextRow_59 : decode cX11_nextRow 59 = .ok (.goto (-18), 3) := by decide +kernel
theorem dX11_nextRow_62 : decode cX11_nextRow 62 = .ok (.aload_n 0, 1) := by decide +kernel
theorem dX11_nextRow_63 : decode cX11_nextRow 63 = .ok (.getfield 149, 3) := by decide +kernel
theorem dX11_nextRow_66 : decode cX11_nextRow 66 = .ok (.iload_n 2, 1) := by decide +kernel
theorem dX11_nextRow_67 : decode cX11_nextRow 67 = .ok (.iaload, 1) := by decide +kernel
theorem dX11_nextRow_68 : decode cX11_nextRow 68 = .ok (.istore 4, 2) := by decide +kernel
theorem dX11_nextRow_70 : decode cX11_nextRow 70 = .ok (.aload_n 0, 1) := by decide +kernel
theorem dX11_nextRow_71 : decode cX11_nextRow 71 = .ok (.getfield 149, 3) := by decide +kernel
theorem dX11_nextRow_74 : decode cX11_nextRow 74 = .ok (.iload_n 2, 1) := by decide +kernel
theorem dX11_nextRow_75 : decode cX11_nextRow 75 = .ok (.aload_n 0, 1) := by decide +kernel
theorem dX11_nextRow_76 : decode cX11_nextRow 76 = .ok (.getfield 149, 3) := by decide +kernel
theorem dX11_nextRow_79 : decode cX11_nextRow 79 = .ok (.iload_n 3, 1) := by decide +kernel
theorem dX11_nextRow_80 : decode cX11_nextRow 80 = .ok (.iaload, 1) := by decide +kernel
theorem dX11_nextRow_81 : decode cX11_nextRow 81 = .ok (.iastore, 1) := by decide +kernel
theorem dX11_nextRow_82 : decode cX11_nextRow 82 = .ok (.aload_n 0, 1) := by decide +kernel
theorem dX11_nextRow_83 : decode cX11_nextRow 83 = .ok (.getfield 149, 3) := by decide +kernel
theorem dX11_nextRow_86 : decode cX11_nextRow 86 = .ok (.iload_n 3, 1) := by decide +kernel
theorem dX11_nextRow_87 : decode cX11_nextRow 87 = .ok (.iload 4, 2) := by decide +kernel
theorem dX11_nextRow_89 : decode cX11_nextRow 89 = .ok (.iastore, 1) := by decide +kernel
theorem dX11_nextRow_90 : decode cX11_nextRow 90 = .ok (.iload_n 2, 1) := by decide +kernel
theorem dX11_nextRow_91 : decode cX11_nextRow 91 = .ok (.iconst 1, 1) := by decide +kernel
theorem dX11_nextRow_92 : decode cX11_nextRow 92 = .ok (.iadd, 1) := by decide +kernel
theorem dX11_nextRow_93 : decode cX11_nextRow 93 = .ok (.istore 5, 2) := by decide +kernel
theorem dX11_nextRow_95 : decode cX11_nextRow 95 = .ok (.iload_n 1, 1) := by decide +kernel
theorem dX11_nextRow_96 : decode cX11_nextRow 96 = .ok (.iconst 1, 1) := by decide +kernel
theorem dX11_nextRow_97 : decode cX11_nextRow 97 = .ok (.isub, 1) := by decide +kernel
theorem dX11_nextRow_98 : decode cX11_nextRow 98 = .ok (.istore 6, 2) := by decide +kernel
theorem dX11_nextRow_100 : decode cX11_nextRow 100 = .ok (.iload 5, 2) := by decide +kernel
theorem dX11_nextRow_102 : decode cX11_nextRow 102 = .ok (.iload 6, 2) := by decide +kernel
theorem dX11_nextRow_104 : decode cX11_nextRow 104 = .ok (.if_icmp .ge 44, 3) := by decide +kernel
theorem dX11_nextRow_107 : decode cX11_nextRow 107 = .ok (.aload_n 0, 1) := by decide +kernel
theorem dX11_nextRow_108 : decode cX11_nextRow 108 = .ok (.getfield 149, 3) := by decide +kernel
theorem dX11_nextRow_111 : decode cX11_nextRow 111 = .ok (.iload 5, 2) := by decide +kernel
theorem dX11_nextRow_113 : decode cX11_nextRow 113 = .ok (.iaload, 1) := by decide +kernel
theorem dX11_nextRow_114 : decode cX11_nextRow 114 = .ok (.istore 4, 2) := by decide +kernel
theorem dX11_nextRow_116 : decode cX11_nextRow 116 = .ok (.aload_n 0, 1) := by decide +kernel
theorem dX11_nextRow_117 : decode cX11_nextRow 117 = .ok (.getfield 149, 3) := by decide +kernel
theorem dX11_nextRow_120 : decode cX11_nextRow 120 = .ok (.iload 5, 2) := by decide +kernel
theorem dX11_nextRow_122 : decode cX11_nextRow 122 = .ok (.aload_n 0, 1) := by decide +kernel
theorem dX11_nextRow_123 : decode cX11_nextRow 123 = .ok (.getfield 149, 3) := by decide +kernel
theorem dX11_nextRow_126 : decode cX11_nextRow 126 = .ok (.iload 6, 2) := by decide +kernel
theorem dX11_nextRow_128 : decode cX11_nextRow 128 = .ok (.iaload, 1) := by decide +kernel
theorem dX11_nextRow_129 : decode cX11_nextRow 129 = .ok (.iastore, 1) := by decide +kernel
theorem dX11_nextRow_130 : decode cX11_nextRow 130 = .ok (.aload_n 0, 1) := by decide +kernel
theorem dX11_nextRow_131 : decode cX11_nextRow 131 = .ok (.getfield 149, 3) := by decide +kernel
theorem dX11_nextRow_134 : decode cX11_nextRow 134 = .ok (.iload 6, 2) := by decide +kernel
theorem dX11_nextRow_136 : decode cX11_nextRow 136 = .ok (.iload 4, 2) := by decide +kernel
theorem dX11_nextRow_138 : decode cX11_nextRow 138 = .ok (.iastore, 1) := by decide +kernel
theorem dX11_nextRow_139 : decode cX11_nextRow 139 = .ok (.iinc 5 1, 3) := by decide +kernel
theorem dX11_nextRow_142 : decode cX11_nextRow 142 = .ok (.iinc 6 (-1), 3) := by decide +kernel
theorem dX11_nextRow_145 : decode cX11_nextRow 145 = .ok (.goto (-45), 3) := by decide +kernel
theorem dX11_nextRow_148 : decode cX11_nextRow 148 = .ok (.iconst 1, 1) := by decide +kernel
theorem dX11_nextRow_149 : decode cX11_nextRow 149 = .ok (.ireturn, 1) := by decide +kernel
theorem dX11_plan_0 : decode cX11_plan 0 = .ok (.aload_n 0, 1) := by decide +kernel
theorem dX11_plan_1 : decode cX11_plan 1 = .ok (.getfield 40, 3) := by decide +kernel
theorem dX11_plan_4 : decode cX11_plan 4 = .ok (.aload_n 0, 1) := by decide +kernel
theorem dX11_plan_5 : decode cX11_plan 5 = .ok (.getfield 234, 3) := by decide +kernel
theorem dX11_plan_8 : decode cX11_plan 8 = .ok (.iaload, 1) := by decide +kernel
theorem dX11_plan_9 : decode cX11_plan 9 = .ok (.istore_n 1, 1) := by decide +kernel
theorem dX11_plan_10 : decode cX11_plan 10 = .ok (.iconst 0, 1) := by decide +kernel
theorem dX11_plan_11 : decode cX11_plan 11 = .ok (.istore_n 2, 1) := by decide +kernel
theorem dX11_plan_12 : decode cX11_plan 12 = .ok (.iload_n 2, 1) := by decide +kernel
theorem dX11_plan_13 : decode cX11_plan 13 = .ok (.iload_n 1, 1) := by decide +kernel
theorem dX11_plan_14 : decode cX11_plan 14 = .ok (.if_icmp .ge 16, 3) := by decide +kernel
theorem dX11_plan_17 : decode cX11_plan 17 = .ok (.aload_n 0, 1) := by decide +kernel
theorem dX11_plan_18 : decode cX11_plan 18 = .ok (.getfield 149, 3) := by decide +kernel
theorem dX11_plan_21 : decode cX11_plan 21 = .ok (.iload_n 2, 1) := by decide +kernel
theorem dX11_plan_22 : decode cX11_plan 22 = .ok (.iload_n 2, 1) := by decide +kernel
theorem dX11_plan_23 : decode cX11_plan 23 = .ok (.iastore, 1) := by decide +kernel
theorem dX11_plan_24 : decode cX11_plan 24 = .ok (.iinc 2 1, 3) := by decide +kernel
theorem dX11_plan_27 : decode cX11_plan 27 = .ok (.goto (-15), 3) := by decide +kernel
theorem dX11_plan_30 : decode cX11_plan 30 = .ok (.iconst (-1), 1) := by decide +kernel
theorem dX11_plan_31 : decode cX11_plan 31 = .ok (.istore_n 2, 1) := by decide +kernel
theorem dX11_plan_32 : decode cX11_plan 32 = .ok (.iconst 1, 1) := by decide +kernel
theorem dX11_plan_33 : decode cX11_plan 33 = .ok (.istore_n 3, 1) := by decide +kernel
theorem dX11_plan_34 : decode cX11_plan 34 = .ok (.iload_n 3, 1) := by decide +kernel
theorem dX11_plan_35 : decode cX11_plan 35 = .ok (.ifCond .eq 77, 3) := by decide +kernel
theorem dX11_plan_38 : decode cX11_plan 38 = .ok (.aload_n 0, 1) := by decide +kernel
theorem dX11_plan_39 : decode cX11_plan 39 = .ok (.invokevirtual 332, 3) := by decide +kernel
theorem dX11_plan_42 : decode cX11_plan 42 = .ok (.aload_n 0, 1) := by decide +kernel
theorem dX11_plan_43 : decode cX11_plan 43 = .ok (.invokevirtual 335, 3) := by decide +kernel
theorem dX11_plan_46 : decode cX11_plan 46 = .ok (.istore 4, 2) := by decide +kernel
theorem dX11_plan_48 : decode cX11_plan 48 = .ok (.iload_n 2, 1) := by decide +kernel
theorem dX11_plan_49 : decode cX11_plan 49 = .ok (.iconst (-1), 1) := by decide +kernel
theorem dX11_plan_50 : decode cX11_plan 50 = .ok (.if_icmp .eq 9, 3) := by decide +kernel
theorem dX11_plan_53 : decode cX11_plan 53 = .ok (.iload 4, 2) := by decide +kernel
theorem dX11_plan_55 : decode cX11_plan 55 = .ok (.iload_n 2, 1) := by decide +kernel
theorem dX11_plan_56 : decode cX11_plan 56 = .ok (.if_icmp .ge 35, 3) := by decide +kernel
theorem dX11_plan_59 : decode cX11_plan 59 = .ok (.iload 4, 2) := by decide +kernel
theorem dX11_plan_61 : decode cX11_plan 61 = .ok (.istore_n 2, 1) := by decide +kernel
theorem dX11_plan_62 : decode cX11_plan 62 = .ok (.iconst 0, 1) := by decide +kernel
theorem dX11_plan_63 : decode cX11_plan 63 = .ok (.istore 5, 2) := by decide +kernel
theorem dX11_plan_65 : decode cX11_plan 65 = .ok (.iload 5, 2) := by decide +kernel
theorem dX11_plan_67 : decode cX11_plan 67 = .ok (.iload_n 1, 1) := by decide +kernel
theorem dX11_plan_68 : decode cX11_plan 68 = .ok (.if_icmp .ge 23, 3) := by decide +kernel
theorem dX11_plan_71 : decode cX11_plan 71 = .ok (.aload_n 0, 1) := by decide +kernel
theorem dX11_plan_72 : decode cX11_plan 72 = .ok (.getfield 119, 3) := by decide +kernel
theorem dX11_plan_75 : decode cX11_plan 75 = .ok (.iload 5, 2) := by decide +kernel
theorem dX11_plan_77 : decode cX11_plan 77 = .ok (.aload_n 0, 1) := by decide +kernel
theorem dX11_plan_78 : decode cX11_plan 78 = .ok (.getfield 149, 3) := by decide +kernel
theorem dX11_plan_81 : decode cX11_plan 81 = .ok (.iload 5, 2) := by decide +kernel
theorem dX11_plan_83 : decode cX11_plan 83 = .ok (.iaload, 1) := by decide +kernel
theorem dX11_plan_84 : decode cX11_plan 84 = .ok (.iastore, 1) := by decide +kernel
theorem dX11_plan_85 : decode cX11_plan 85 = .ok (.iinc 5 1, 3) := by decide +kernel
theorem dX11_plan_88 : decode cX11_plan 88 = .ok (.goto (-23), 3) := by decide +kernel
theorem dX11_plan_91 : decode cX11_plan 91 = .ok (.iload_n 2, 1) := by decide +kernel
theorem dX11_plan_92 : decode cX11_plan 92 = .ok (.ifCond .le 15, 3) := by decide +kernel
theorem dX11_plan_95 : decode cX11_plan 95 = .ok (.aload_n 0, 1) := by decide +kernel
theorem dX11_plan_96 : decode cX11_plan 96 = .ok (.iload_n 1, 1) := by decide +kernel
theorem dX11_plan_97 : decode cX11_plan 97 = .ok (.invokevirtual 338, 3) := by decide +kernel
theorem dX11_plan_100 : decode cX11_plan 100 = .ok (.ifCond .eq 7, 3) := by decide +kernel
theorem dX11_plan_103 : decode cX11_plan 103 = .ok (.iconst 1, 1) := by decide +kernel
theorem dX11_plan_104 : decode cX11_plan 104 = .ok (.goto 4, 3) := by decide +kernel
theorem dX11_plan_107 : decode cX11_plan 107 = .ok (.iconst 0, 1) := by decide +kernel
theorem dX11_plan_108 : decode cX11_plan 108 = .ok (.istore_n 3, 1) := by decide +kernel
theorem dX11_plan_109 : decode cX11_plan 109 = .ok (.goto (-75), 3) := by decide +kernel
theorem dX11_plan_112 : decode cX11_plan 112 = .ok (.iload_n 2, 1) := by decide +kernel
theorem dX11_plan_113 : decode cX11_plan 113 = .ok (.ireturn, 1) := by decide +kernel
theorem dX11_order_0 : decode cX11_order 0 = .ok (.iload_n 1, 1) := by decide +kernel
theorem dX11_order_1 : decode cX11_order 1 = .ok (.ifCond .lt 25, 3) := by decide +kernel
theorem dX11_order_4 : decode cX11_order 4 = .ok (.iload_n 1, 1) := by decide +kernel
theorem dX11_order_5 : decode cX11_order 5 = .ok (.aload_n 0, 1) := by decide +kernel
theorem dX11_order_6 : decode cX11_order 6 = .ok (.getfield 40, 3) := by decide +kernel
theorem dX11_order_9 : decode cX11_order 9 = .ok (.aload_n 0, 1) := by decide +kernel
theorem dX11_order_10 : decode cX11_order 10 = .ok (.getfield 234, 3) := by decide +kernel
theorem dX11_order_13 : decode cX11_order 13 = .ok (.iaload, 1) := by decide +kernel
theorem dX11_order_14 : decode cX11_order 14 = .ok (.if_icmp .ge 12, 3) := by decide +kernel
theorem dX11_order_17 : decode cX11_order 17 = .ok (.aload_n 0, 1) := by decide +kernel
theorem dX11_order_18 : decode cX11_order 18 = .ok (.getfield 119, 3) := by decide +kernel
theorem dX11_order_21 : decode cX11_order 21 = .ok (.iload_n 1, 1) := by decide +kernel
theorem dX11_order_22 : decode cX11_order 22 = .ok (.iaload, 1) := by decide +kernel
theorem dX11_order_23 : decode cX11_order 23 = .ok (.goto 4, 3) := by decide +kernel
theorem dX11_order_26 : decode cX11_order 26 = .ok (.iconst (-1), 1) := by decide +kernel
theorem dX11_order_27 : decode cX11_order 27 = .ok (.ireturn, 1) := by decide +kernel
theorem dX11_foreseen_0 : decode cX11_foreseen 0 = .ok (.aload_n 0, 1) := by decide +kernel
theorem dX11_foreseen_1 : decode cX11_foreseen 1 = .ok (.iload_n 1, 1) := by decide +kernel
theorem dX11_foreseen_2 : decode cX11_foreseen 2 = .ok (.invokevirtual 301, 3) := by decide +kernel
theorem dX11_foreseen_5 : decode cX11_foreseen 5 = .ok (.ifCond .ne 5, 3) := by decide +kernel
theorem dX11_foreseen_8 : decode cX11_foreseen 8 = .ok (.iconst (-1), 1) := by decide +kernel
theorem dX11_foreseen_9 : decode cX11_foreseen 9 = .ok (.ireturn, 1) := by decide +kernel
theorem dX11_foreseen_10 : decode cX11_foreseen 10 = .ok (.iconst 0, 1) := by decide +kernel
theorem dX11_foreseen_11 : decode cX11_foreseen 11 = .ok (.istore_n 2, 1) := by decide +kernel
theorem dX11_foreseen_12 : decode cX11_foreseen 12 = .ok (.iload_n 2, 1) := by decide +kernel
theorem dX11_foreseen_13 : decode cX11_foreseen 13 = .ok (.bipush 7, 2) := by decide +kernel
theorem dX11_foreseen_15 : decode cX11_foreseen 15 = .ok (.if_icmp .ge 21, 3) := by decide +kernel
theorem dX11_foreseen_18 : decode cX11_foreseen 18 = .ok (.aload_n 0, 1) := by decide +kernel
theorem dX11_foreseen_19 : decode cX11_foreseen 19 = .ok (.getfield 149, 3) := by decide +kernel
theorem dX11_foreseen_22 : decode cX11_foreseen 22 = .ok (.iload_n 2, 1) := by decide +kernel
theorem dX11_foreseen_23 : decode cX11_foreseen 23 = .ok (.aload_n 0, 1) := by decide +kernel
theorem dX11_foreseen_24 : decode cX11_foreseen 24 = .ok (.getfield 119, 3) := by decide +kernel
theorem dX11_foreseen_27 : decode cX11_foreseen 27 = .ok (.iload_n 2, 1) := by decide +kernel
theorem dX11_foreseen_28 : decode cX11_foreseen 28 = .ok (.iaload, 1) := by decide +kernel
theorem dX11_foreseen_29 : decode cX11_foreseen 29 = .ok (.iastore, 1) := by decide +kernel
theorem dX11_foreseen_30 : decode cX11_foreseen 30 = .ok (.iinc 2 1, 3) := by decide +kernel
theorem dX11_foreseen_33 : decode cX11_foreseen 33 = .ok (.goto (-21), 3) := by decide +kernel
theorem dX11_foreseen_36 : decode cX11_foreseen 36 = .ok (.aload_n 0, 1) := by decide +kernel
theorem dX11_foreseen_37 : decode cX11_foreseen 37 = .ok (.invokevirtual 332, 3) := by decide +kernel
theorem dX11_foreseen_40 : decode cX11_foreseen 40 = .ok (.aload_n 0, 1) := by decide +kernel
theorem dX11_foreseen_41 : decode cX11_foreseen 41 = .ok (.getfield 152, 3) := by decide +kernel
theorem dX11_foreseen_44 : decode cX11_foreseen 44 = .ok (.iload_n 1, 1) := by decide +kernel
theorem dX11_foreseen_45 : decode cX11_foreseen 45 = .ok (.iaload, 1) := by decide +kernel
theorem dX11_foreseen_46 : decode cX11_foreseen 46 = .ok (.ireturn, 1) := by decide +kernel
theorem dX11_sure_0 : decode cX11_sure 0 = .ok (.aload_n 0, 1) := by decide +kernel
theorem dX11_sure_1 : decode cX11_sure 1 = .ok (.iload_n 1, 1) := by decide +kernel
theorem dX11_sure_2 : decode cX11_sure 2 = .ok (.invokevirtual 301, 3) := by decide +kernel
theorem dX11_sure_5 : decode cX11_sure 5 = .ok (.ifCond .eq 20, 3) := by decide +kernel
theorem dX11_sure_8 : decode cX11_sure 8 = .ok (.aload_n 0, 1) := by decide +kernel
theorem dX11_sure_9 : decode cX11_sure 9 = .ok (.getfield 46, 3) := by decide +kernel
theorem dX11_sure_12 : decode cX11_sure 12 = .ok (.bipush 7, 2) := by decide +kernel
theorem dX11_sure_14 : decode cX11_sure 14 = .ok (.aload_n 0, 1) := by decide +kernel
theorem dX11_sure_15 : decode cX11_sure 15 = .ok (.getfield 234, 3) := by decide +kernel
theorem dX11_sure_18 : decode cX11_sure 18 = .ok (.imul, 1) := by decide +kernel
theorem dX11_sure_19 : decode cX11_sure 19 = .ok (.iload_n 1, 1) := by decide +kernel
theorem dX11_sure_20 : decode cX11_sure 20 = .ok (.iadd, 1) := by decide +kernel
theorem dX11_sure_21 : decode cX11_sure 21 = .ok (.baload, 1) := by decide +kernel
theorem dX11_sure_22 : decode cX11_sure 22 = .ok (.ifCond .ne 5, 3) := by decide +kernel
theorem dX11_sure_25 : decode cX11_sure 25 = .ok (.iconst (-1), 1) := by decide +kernel
theorem dX11_sure_26 : decode cX11_sure 26 = .ok (.ireturn, 1) := by decide +kernel
theorem dX11_sure_27 : decode cX11_sure 27 = .ok (.aload_n 0, 1) := by decide +kernel
theorem dX11_sure_28 : decode cX11_sure 28 = .ok (.iconst 0, 1) := by decide +kernel
theorem dX11_sure_29 : decode cX11_sure 29 = .ok (.invokevirtual 323, 3) := by decide +kernel
theorem dX11_sure_32 : decode cX11_sure 32 = .ok (.iconst 0, 1) := by decide +kernel
theorem dX11_sure_33 : decode cX11_sure 33 = .ok (.istore_n 2, 1) := by decide +kernel
theorem dX11_sure_34 : decode cX11_sure 34 = .ok (.iload_n 2, 1) := by decide +kernel
theorem dX11_sure_35 : decode cX11_sure 35 = .ok (.iload_n 1, 1) := by decide +kernel
theorem dX11_sure_36 : decode cX11_sure 36 = .ok (.if_icmp .gt 222, 3) := by decide +kernel
theorem dX11_sure_39 : decode cX11_sure 39 = .ok (.bipush 7, 2) := by decide +kernel
theorem dX11_sure_41 : decode cX11_sure 41 = .ok (.aload_n 0, 1) := by decide +kernel
theorem dX11_sure_42 : decode cX11_sure 42 = .ok (.getfield 234, 3) := by decide +kernel
theorem dX11_sure_45 : decode cX11_sure 45 = .ok (.imul, 1) := by decide +kernel
theorem dX11_sure_46 : decode cX11_sure 46 = .ok (.iload_n 2, 1) := by decide +kernel
theorem dX11_sure_47 : decode cX11_sure 47 = .ok (.iadd, 1) := by decide +kernel
theorem dX11_sure_48 : decode cX11_sure 48 = .ok (.istore_n 3, 1) := by decide +kernel
theorem dX11_sure_49 : decode cX11_sure 49 = .ok (.aload_n 0, 1) := by decide +kernel
theorem dX11_sure_50 : decode cX11_sure 50 = .ok (.getfield 122, 3) := by decide +kernel
theorem dX11_sure_53 : decode cX11_sure 53 = .ok (.iload_n 2, 1) := by decide +kernel
theorem dX11_sure_54 : decode cX11_sure 54 = .ok (.iaload, 1) := by decide +kernel
theorem dX11_sure_55 : decode cX11_sure 55 = .ok (.iconst (-1), 1) := by decide +kernel
theorem dX11_sure_56 : decode cX11_sure 56 = .ok (.if_icmp .eq 18, 3) := by decide +kernel
theorem dX11_sure_59 : decode cX11_sure 59 = .ok (.aload_n 0, 1) := by decide +kernel
theorem dX11_sure_60 : decode cX11_sure 60 = .ok (.getfield 152, 3) := by decide +kernel
theorem dX11_sure_63 : decode cX11_sure 63 = .ok (.iload_n 2, 1) := by decide +kernel
theorem dX11_sure_64 : decode cX11_sure 64 = .ok (.aload_n 0, 1) := by decide +kernel
theorem dX11_sure_65 : decode cX11_sure 65 = .ok (.getfield 122, 3) := by decide +kernel
theorem dX11_sure_68 : decode cX11_sure 68 = .ok (.iload_n 2, 1) := by decide +kernel
theorem dX11_sure_69 : decode cX11_sure 69 = .ok (.iaload, 1) := by decide +kernel
theorem dX11_sure_70 : decode cX11_sure 70 = .ok (.iastore, 1) := by decide +kernel
theorem dX11_sure_71 : decode cX11_sure 71 = .ok (.goto 181, 3) := by decide +kernel
theorem dX11_sure_74 : decode cX11_sure 74 = .ok (.aload_n 0, 1) := by decide +kernel
theorem dX11_sure_75 : decode cX11_sure 75 = .ok (.iload_n 2, 1) := by decide +kernel
theorem dX11_sure_76 : decode cX11_sure 76 = .ok (.invokevirtual 311, 3) := by decide +kernel
theorem dX11_sure_79 : decode cX11_sure 79 = .ok (.ifCond .eq 30, 3) := by decide +kernel
theorem dX11_sure_82 : decode cX11_sure 82 = .ok (.aload_n 0, 1) := by decide +kernel
theorem dX11_sure_83 : decode cX11_sure 83 = .ok (.getfield 152, 3) := by decide +kernel
theorem dX11_sure_86 : decode cX11_sure 86 = .ok (.iload_n 2, 1) := by decide +kernel
theorem dX11_sure_87 : decode cX11_sure 87 = .ok (.aload_n 0, 1) := by decide +kernel
theorem dX11_sure_88 : decode cX11_sure 88 = .ok (.getfield 314, 3) := by decide +kernel
theorem dX11_sure_91 : decode cX11_sure 91 = .ok (.aload_n 0, 1) := by decide +kernel
theorem dX11_sure_92 : decode cX11_sure 92 = .ok (.getfield 50, 3) := by decide +kernel
theorem dX11_sure_95 : decode cX11_sure 95 = .ok (.iload_n 3, 1) := by decide +kernel
theorem dX11_sure_96 : decode cX11_sure 96 = .ok (.iaload, 1) := by decide +kernel
theorem dX11_sure_97 : decode cX11_sure 97 = .ok (.iadd, 1) := by decide +kernel
theorem dX11_sure_98 : decode cX11_sure 98 = .ok (.aload_n 0, 1) := by decide +kernel
theorem dX11_sure_99 : decode cX11_sure 99 = .ok (.getfield 128, 3) := by decide +kernel
theorem dX11_sure_102 : decode cX11_sure 102 = .ok (.iload_n 2, 1) := by decide +kernel
theorem dX11_sure_103 : decode cX11_sure 103 = .ok (.iaload, 1) := by decide +kernel
theorem dX11_sure_104 : decode cX11_sure 104 = .ok (.isub, 1) := by decide +kernel
theorem dX11_sure_105 : decode cX11_sure 105 = .ok (.iastore, 1) := by decide +kernel
theorem dX11_sure_106 : decode cX11_sure 106 = .ok (.goto 146, 3) := by decide +kernel
theorem dX11_sure_109 : decode cX11_sure 109 = .ok (.aload_n 0, 1) := by decide +kernel
theorem dX11_sure_110 : decode cX11_sure 110 = .ok (.getfield 314, 3) := by decide +kernel
theorem dX11_sure_113 : decode cX11_sure 113 = .ok (.iconst 1, 1) := by decide +kernel
theorem dX11_sure_114 : decode cX11_sure 114 = .ok (.iadd, 1) := by decide +kernel
theorem dX11_sure_115 : decode cX11_sure 115 = .ok (.istore 4, 2) := by decide +kernel
theorem dX11_sure_117 : decode cX11_sure 117 = .ok (.iconst 0, 1) := by decide +kernel
theorem dX11_sure_118 : decode cX11_sure 118 = .ok (.istore 5, 2) := by decide +kernel
theorem dX11_sure_120 : decode cX11_sure 120 = .ok (.iload 5, 2) := by decide +kernel
theorem dX11_sure_122 : decode cX11_sure 122 = .ok (.bipush 6, 2) := by decide +kernel
theorem dX11_sure_124 : decode cX11_sure 124 = .ok (.if_icmp .ge 45, 3) := by decide +kernel
theorem dX11_sure_127 : decode cX11_sure 127 = .ok (.aload_n 0, 1) := by decide +kernel
theorem dX11_sure_128 : decode cX11_sure 128 = .ok (.getfield 65, 3) := by decide +kernel
theorem dX11_sure_131 : decode cX11_sure 131 = .ok (.iload_n 3, 1) := by decide +kernel
theorem dX11_sure_132 : decode cX11_sure 132 = .ok (.iaload, 1) := by decide +kernel
theorem dX11_sure_133 : decode cX11_sure 133 = .ok (.iload 5, 2) := by decide +kernel
theorem dX11_sure_135 : decode cX11_sure 135 = .ok (.ishr, 1) := by decide +kernel
theorem dX11_sure_136 : decode cX11_sure 136 = .ok (.iconst 1, 1) := by decide +kernel
theorem dX11_sure_137 : decode cX11_sure 137 = .ok (.iand, 1) := by decide +kernel
theorem dX11_sure_138 : decode cX11_sure 138 = .ok (.iconst 1, 1) := by decide +kernel
theorem dX11_sure_139 : decode cX11_sure 139 = .ok (.if_icmp .ne 24, 3) := by decide +kernel
theorem dX11_sure_142 : decode cX11_sure 142 = .ok (.aload_n 0, 1) := by decide +kernel
theorem dX11_sure_143 : decode cX11_sure 143 = .ok (.getfield 161, 3) := by decide +kernel
theorem dX11_sure_146 : decode cX11_sure 146 = .ok (.iload 5, 2) := by decide +kernel
theorem dX11_sure_148 : decode cX11_sure 148 = .ok (.iaload, 1) := by decide +kernel
theorem dX11_sure_149 : decode cX11_sure 149 = .ok (.iload 4, 2) := by decide +kernel
theorem dX11_sure_151 : decode cX11_sure 151 = .ok (.if_icmp .le 12, 3) := by decide +kernel
theorem dX11_sure_154 : decode cX11_sure 154 = .ok (.aload_n 0, 1) := by decide +kernel
theorem dX11_sure_155 : decode cX11_sure 155 = .ok (.getfield 161, 3) := by decide +kernel
theorem dX11_sure_158 : decode cX11_sure 158 = .ok (.iload 5, 2) := by decide +kernel
theorem dX11_sure_160 : decode cX11_sure 160 = .ok (.iaload, 1) := by decide +kernel
theorem dX11_sure_161 : decode cX11_sure 161 = .ok (.istore 4, 2) := by decide +kernel
theorem dX11_sure_163 : decode cX11_sure 163 = .ok (.iinc 5 1, 3) := by decide +kernel
theorem dX11_sure_166 : decode cX11_sure 166 = .ok (.goto (-46), 3) := by decide +kernel
theorem dX11_sure_169 : decode cX11_sure 169 = .ok (.iconst 0, 1) := by decide +kernel
theorem dX11_sure_170 : decode cX11_sure 170 = .ok (.istore 5, 2) := by decide +kernel
theorem dX11_sure_172 : decode cX11_sure 172 = .ok (.iload 5, 2) := by decide +kernel
theorem dX11_sure_174 : decode cX11_sure 174 = .ok (.iload_n 2, 1) := by decide +kernel
theorem dX11_sure_175 : decode cX11_sure 175 = .ok (.if_icmp .ge 60, 3) := by decide +kernel
theorem dX11_sure_178 : decode cX11_sure 178 = .ok (.aload_n 0, 1) := by decide +kernel
theorem dX11_sure_179 : decode cX11_sure 179 = .ok (.getfield 68, 3) := by decide +kernel
theorem dX11_sure_182 : decode cX11_sure 182 = .ok (.iload_n 3, 1) := by decide +kernel
theorem dX11_sure_183 : decode cX11_sure 183 = .ok (.iaload, 1) := by decide +kernel
theorem dX11_sure_184 : decode cX11_sure 184 = .ok (.iload 5, 2) := by decide +kernel
theorem dX11_sure_186 : decode cX11_sure 186 = .ok (.ishr, 1) := by decide +kernel
theorem dX11_sure_187 : decode cX11_sure 187 = .ok (.iconst 1, 1) := by decide +kernel
