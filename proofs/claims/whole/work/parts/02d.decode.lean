theorem dX11_sure_188 : decode cX11_sure 188 = .ok (.iand, 1) := by decide +kernel
theorem dX11_sure_189 : decode cX11_sure 189 = .ok (.iconst 1, 1) := by decide +kernel
theorem dX11_sure_190 : decode cX11_sure 190 = .ok (.if_icmp .ne 39, 3) := by decide +kernel
theorem dX11_sure_193 : decode cX11_sure 193 = .ok (.aload_n 0, 1) := by decide +kernel
theorem dX11_sure_194 : decode cX11_sure 194 = .ok (.getfield 122, 3) := by decide +kernel
theorem dX11_sure_197 : decode cX11_sure 197 = .ok (.iload 5, 2) := by decide +kernel
theorem dX11_sure_199 : decode cX11_sure 199 = .ok (.iaload, 1) := by decide +kernel
theorem dX11_sure_200 : decode cX11_sure 200 = .ok (.iconst (-1), 1) := by decide +kernel
theorem dX11_sure_201 : decode cX11_sure 201 = .ok (.if_icmp .ne 28, 3) := by decide +kernel
theorem dX11_sure_204 : decode cX11_sure 204 = .ok (.aload_n 0, 1) := by decide +kernel
theorem dX11_sure_205 : decode cX11_sure 205 = .ok (.getfield 152, 3) := by decide +kernel
theorem dX11_sure_208 : decode cX11_sure 208 = .ok (.iload 5, 2) := by decide +kernel
theorem dX11_sure_210 : decode cX11_sure 210 = .ok (.iaload, 1) := by decide +kernel
theorem dX11_sure_211 : decode cX11_sure 211 = .ok (.iconst 1, 1) := by decide +kernel
theorem dX11_sure_212 : decode cX11_sure 212 = .ok (.iadd, 1) := by decide +kernel
theorem dX11_sure_213 : decode cX11_sure 213 = .ok (.iload 4, 2) := by decide +kernel
theorem dX11_sure_215 : decode cX11_sure 215 = .ok (.if_icmp .le 14, 3) := by decide +kernel
theorem dX11_sure_218 : decode cX11_sure 218 = .ok (.aload_n 0, 1) := by decide +kernel
theorem dX11_sure_219 : decode cX11_sure 219 = .ok (.getfield 152, 3) := by decide +kernel
theorem dX11_sure_222 : decode cX11_sure 222 = .ok (.iload 5, 2) := by decide +kernel
theorem dX11_sure_224 : decode cX11_sure 224 = .ok (.iaload, 1) := by decide +kernel
theorem dX11_sure_225 : decode cX11_sure 225 = .ok (.iconst 1, 1) := by decide +kernel
theorem dX11_sure_226 : decode cX11_sure 226 = .ok (.iadd, 1) := by decide +kernel
theorem dX11_sure_227 : decode cX11_sure 227 = .ok (.istore 4, 2) := by decide +kernel
theorem dX11_sure_229 : decode cX11_sure 229 = .ok (.iinc 5 1, 3) := by decide +kernel
theorem dX11_sure_232 : decode cX11_sure 232 = .ok (.goto (-60), 3) := by decide +kernel
theorem dX11_sure_235 : decode cX11_sure 235 = .ok (.aload_n 0, 1) := by decide +kernel
theorem dX11_sure_236 : decode cX11_sure 236 = .ok (.getfield 152, 3) := by decide +kernel
theorem dX11_sure_239 : decode cX11_sure 239 = .ok (.iload_n 2, 1) := by decide +kernel
theorem dX11_sure_240 : decode cX11_sure 240 = .ok (.iload 4, 2) := by decide +kernel
theorem dX11_sure_242 : decode cX11_sure 242 = .ok (.aload_n 0, 1) := by decide +kernel
theorem dX11_sure_243 : decode cX11_sure 243 = .ok (.getfield 50, 3) := by decide +kernel
theorem dX11_sure_246 : decode cX11_sure 246 = .ok (.iload_n 3, 1) := by decide +kernel
theorem dX11_sure_247 : decode cX11_sure 247 = .ok (.iaload, 1) := by decide +kernel
theorem dX11_sure_248 : decode cX11_sure 248 = .ok (.iadd, 1) := by decide +kernel
theorem dX11_sure_249 : decode cX11_sure 249 = .ok (.iconst 1, 1) := by decide +kernel
theorem dX11_sure_250 : decode cX11_sure 250 = .ok (.isub, 1) := by decide +kernel
theorem dX11_sure_251 : decode cX11_sure 251 = .ok (.iastore, 1) := by decide +kernel
theorem dX11_sure_252 : decode cX11_sure 252 = .ok (.iinc 2 1, 3) := by decide +kernel
theorem dX11_sure_255 : decode cX11_sure 255 = .ok (.goto (-221), 3) := by decide +kernel
theorem dX11_sure_258 : decode cX11_sure 258 = .ok (.aload_n 0, 1) := by decide +kernel
theorem dX11_sure_259 : decode cX11_sure 259 = .ok (.getfield 152, 3) := by decide +kernel
theorem dX11_sure_262 : decode cX11_sure 262 = .ok (.iload_n 1, 1) := by decide +kernel
theorem dX11_sure_263 : decode cX11_sure 263 = .ok (.iaload, 1) := by decide +kernel
theorem dX11_sure_264 : decode cX11_sure 264 = .ok (.aload_n 0, 1) := by decide +kernel
theorem dX11_sure_265 : decode cX11_sure 265 = .ok (.getfield 53, 3) := by decide +kernel
theorem dX11_sure_268 : decode cX11_sure 268 = .ok (.bipush 7, 2) := by decide +kernel
theorem dX11_sure_270 : decode cX11_sure 270 = .ok (.aload_n 0, 1) := by decide +kernel
theorem dX11_sure_271 : decode cX11_sure 271 = .ok (.getfield 234, 3) := by decide +kernel
theorem dX11_sure_274 : decode cX11_sure 274 = .ok (.imul, 1) := by decide +kernel
theorem dX11_sure_275 : decode cX11_sure 275 = .ok (.iload_n 1, 1) := by decide +kernel
theorem dX11_sure_276 : decode cX11_sure 276 = .ok (.iadd, 1) := by decide +kernel
theorem dX11_sure_277 : decode cX11_sure 277 = .ok (.iaload, 1) := by decide +kernel
theorem dX11_sure_278 : decode cX11_sure 278 = .ok (.if_icmp .le 7, 3) := by decide +kernel
theorem dX11_sure_281 : decode cX11_sure 281 = .ok (.iconst 1, 1) := by decide +kernel
theorem dX11_sure_282 : decode cX11_sure 282 = .ok (.goto 4, 3) := by decide +kernel
theorem dX11_sure_285 : decode cX11_sure 285 = .ok (.iconst 0, 1) := by decide +kernel
theorem dX11_sure_286 : decode cX11_sure 286 = .ok (.ireturn, 1) := by decide +kernel
theorem dX11_step_0 : decode cX11_step 0 = .ok (.aload_n 0, 1) := by decide +kernel
theorem dX11_step_1 : decode cX11_step 1 = .ok (.iload_n 1, 1) := by decide +kernel
theorem dX11_step_2 : decode cX11_step 2 = .ok (.invokevirtual 301, 3) := by decide +kernel
theorem dX11_step_5 : decode cX11_step 5 = .ok (.ifCond .ne 5, 3) := by decide +kernel
theorem dX11_step_8 : decode cX11_step 8 = .ok (.iconst (-1), 1) := by decide +kernel
theorem dX11_step_9 : decode cX11_step 9 = .ok (.ireturn, 1) := by decide +kernel
theorem dX11_step_10 : decode cX11_step 10 = .ok (.bipush 7, 2) := by decide +kernel
theorem dX11_step_12 : decode cX11_step 12 = .ok (.aload_n 0, 1) := by decide +kernel
theorem dX11_step_13 : decode cX11_step 13 = .ok (.getfield 234, 3) := by decide +kernel
theorem dX11_step_16 : decode cX11_step 16 = .ok (.imul, 1) := by decide +kernel
theorem dX11_step_17 : decode cX11_step 17 = .ok (.iload_n 1, 1) := by decide +kernel
theorem dX11_step_18 : decode cX11_step 18 = .ok (.iadd, 1) := by decide +kernel
theorem dX11_step_19 : decode cX11_step 19 = .ok (.istore_n 3, 1) := by decide +kernel
theorem dX11_step_20 : decode cX11_step 20 = .ok (.iload_n 2, 1) := by decide +kernel
theorem dX11_step_21 : decode cX11_step 21 = .ok (.tableswitch 155 0 8 #[51, 66, 73, 80, 87, 94, 122, 129, 136], 51) := by decide +kernel
theorem dX11_step_72 : decode cX11_step 72 = .ok (.aload_n 0, 1) := by decide +kernel
theorem dX11_step_73 : decode cX11_step 73 = .ok (.getfield 46, 3) := by decide +kernel
theorem dX11_step_76 : decode cX11_step 76 = .ok (.iload_n 3, 1) := by decide +kernel
theorem dX11_step_77 : decode cX11_step 77 = .ok (.baload, 1) := by decide +kernel
theorem dX11_step_78 : decode cX11_step 78 = .ok (.ifCond .eq 7, 3) := by decide +kernel
theorem dX11_step_81 : decode cX11_step 81 = .ok (.iconst 1, 1) := by decide +kernel
theorem dX11_step_82 : decode cX11_step 82 = .ok (.goto 4, 3) := by decide +kernel
theorem dX11_step_85 : decode cX11_step 85 = .ok (.iconst 0, 1) := by decide +kernel
theorem dX11_step_86 : decode cX11_step 86 = .ok (.ireturn, 1) := by decide +kernel
theorem dX11_step_87 : decode cX11_step 87 = .ok (.aload_n 0, 1) := by decide +kernel
theorem dX11_step_88 : decode cX11_step 88 = .ok (.getfield 50, 3) := by decide +kernel
theorem dX11_step_91 : decode cX11_step 91 = .ok (.iload_n 3, 1) := by decide +kernel
theorem dX11_step_92 : decode cX11_step 92 = .ok (.iaload, 1) := by decide +kernel
theorem dX11_step_93 : decode cX11_step 93 = .ok (.ireturn, 1) := by decide +kernel
theorem dX11_step_94 : decode cX11_step 94 = .ok (.aload_n 0, 1) := by decide +kernel
theorem dX11_step_95 : decode cX11_step 95 = .ok (.getfield 53, 3) := by decide +kernel
theorem dX11_step_98 : decode cX11_step 98 = .ok (.iload_n 3, 1) := by decide +kernel
theorem dX11_step_99 : decode cX11_step 99 = .ok (.iaload, 1) := by decide +kernel
theorem dX11_step_100 : decode cX11_step 100 = .ok (.ireturn, 1) := by decide +kernel
theorem dX11_step_101 : decode cX11_step 101 = .ok (.aload_n 0, 1) := by decide +kernel
theorem dX11_step_102 : decode cX11_step 102 = .ok (.getfield 56, 3) := by decide +kernel
theorem dX11_step_105 : decode cX11_step 105 = .ok (.iload_n 3, 1) := by decide +kernel
theorem dX11_step_106 : decode cX11_step 106 = .ok (.iaload, 1) := by decide +kernel
theorem dX11_step_107 : decode cX11_step 107 = .ok (.ireturn, 1) := by decide +kernel
theorem dX11_step_108 : decode cX11_step 108 = .ok (.aload_n 0, 1) := by decide +kernel
theorem dX11_step_109 : decode cX11_step 109 = .ok (.getfield 71, 3) := by decide +kernel
theorem dX11_step_112 : decode cX11_step 112 = .ok (.iload_n 3, 1) := by decide +kernel
theorem dX11_step_113 : decode cX11_step 113 = .ok (.iaload, 1) := by decide +kernel
theorem dX11_step_114 : decode cX11_step 114 = .ok (.ireturn, 1) := by decide +kernel
theorem dX11_step_115 : decode cX11_step 115 = .ok (.aload_n 0, 1) := by decide +kernel
theorem dX11_step_116 : decode cX11_step 116 = .ok (.getfield 122, 3) := by decide +kernel
theorem dX11_step_119 : decode cX11_step 119 = .ok (.iload_n 1, 1) := by decide +kernel
theorem dX11_step_120 : decode cX11_step 120 = .ok (.iaload, 1) := by decide +kernel
theorem dX11_step_121 : decode cX11_step 121 = .ok (.iconst (-1), 1) := by decide +kernel
theorem dX11_step_122 : decode cX11_step 122 = .ok (.if_icmp .eq 7, 3) := by decide +kernel
theorem dX11_step_125 : decode cX11_step 125 = .ok (.iconst 2, 1) := by decide +kernel
theorem dX11_step_126 : decode cX11_step 126 = .ok (.goto 16, 3) := by decide +kernel
theorem dX11_step_129 : decode cX11_step 129 = .ok (.aload_n 0, 1) := by decide +kernel
theorem dX11_step_130 : decode cX11_step 130 = .ok (.iload_n 1, 1) := by decide +kernel
theorem dX11_step_131 : decode cX11_step 131 = .ok (.invokevirtual 311, 3) := by decide +kernel
theorem dX11_step_134 : decode cX11_step 134 = .ok (.ifCond .eq 7, 3) := by decide +kernel
theorem dX11_step_137 : decode cX11_step 137 = .ok (.iconst 1, 1) := by decide +kernel
theorem dX11_step_138 : decode cX11_step 138 = .ok (.goto 4, 3) := by decide +kernel
theorem dX11_step_141 : decode cX11_step 141 = .ok (.iconst 0, 1) := by decide +kernel
theorem dX11_step_142 : decode cX11_step 142 = .ok (.ireturn, 1) := by decide +kernel
theorem dX11_step_143 : decode cX11_step 143 = .ok (.aload_n 0, 1) := by decide +kernel
theorem dX11_step_144 : decode cX11_step 144 = .ok (.getfield 122, 3) := by decide +kernel
theorem dX11_step_147 : decode cX11_step 147 = .ok (.iload_n 1, 1) := by decide +kernel
theorem dX11_step_148 : decode cX11_step 148 = .ok (.iaload, 1) := by decide +kernel
theorem dX11_step_149 : decode cX11_step 149 = .ok (.ireturn, 1) := by decide +kernel
theorem dX11_step_150 : decode cX11_step 150 = .ok (.aload_n 0, 1) := by decide +kernel
theorem dX11_step_151 : decode cX11_step 151 = .ok (.getfield 125, 3) := by decide +kernel
theorem dX11_step_154 : decode cX11_step 154 = .ok (.iload_n 1, 1) := by decide +kernel
theorem dX11_step_155 : decode cX11_step 155 = .ok (.iaload, 1) := by decide +kernel
theorem dX11_step_156 : decode cX11_step 156 = .ok (.ireturn, 1) := by decide +kernel
theorem dX11_step_157 : decode cX11_step 157 = .ok (.aload_n 0, 1) := by decide +kernel
theorem dX11_step_158 : decode cX11_step 158 = .ok (.iload_n 1, 1) := by decide +kernel
theorem dX11_step_159 : decode cX11_step 159 = .ok (.invokevirtual 311, 3) := by decide +kernel
theorem dX11_step_162 : decode cX11_step 162 = .ok (.ifCond .eq 12, 3) := by decide +kernel
theorem dX11_step_165 : decode cX11_step 165 = .ok (.aload_n 0, 1) := by decide +kernel
theorem dX11_step_166 : decode cX11_step 166 = .ok (.getfield 128, 3) := by decide +kernel
theorem dX11_step_169 : decode cX11_step 169 = .ok (.iload_n 1, 1) := by decide +kernel
theorem dX11_step_170 : decode cX11_step 170 = .ok (.iaload, 1) := by decide +kernel
theorem dX11_step_171 : decode cX11_step 171 = .ok (.goto 4, 3) := by decide +kernel
theorem dX11_step_174 : decode cX11_step 174 = .ok (.iconst 0, 1) := by decide +kernel
theorem dX11_step_175 : decode cX11_step 175 = .ok (.ireturn, 1) := by decide +kernel
theorem dX11_step_176 : decode cX11_step 176 = .ok (.iconst (-1), 1) := by decide +kernel
theorem dX11_step_177 : decode cX11_step 177 = .ok (.ireturn, 1) := by decide +kernel
theorem dX11_value_0 : decode cX11_value 0 = .ok (.aload_n 0, 1) := by decide +kernel
theorem dX11_value_1 : decode cX11_value 1 = .ok (.iload_n 1, 1) := by decide +kernel
theorem dX11_value_2 : decode cX11_value 2 = .ok (.invokevirtual 301, 3) := by decide +kernel
theorem dX11_value_5 : decode cX11_value 5 = .ok (.ifCond .eq 37, 3) := by decide +kernel
theorem dX11_value_8 : decode cX11_value 8 = .ok (.iload_n 2, 1) := by decide +kernel
theorem dX11_value_9 : decode cX11_value 9 = .ok (.ifCond .lt 33, 3) := by decide +kernel
theorem dX11_value_12 : decode cX11_value 12 = .ok (.iload_n 2, 1) := by decide +kernel
theorem dX11_value_13 : decode cX11_value 13 = .ok (.bipush 8, 2) := by decide +kernel
theorem dX11_value_15 : decode cX11_value 15 = .ok (.if_icmp .ge 27, 3) := by decide +kernel
theorem dX11_value_18 : decode cX11_value 18 = .ok (.aload_n 0, 1) := by decide +kernel
theorem dX11_value_19 : decode cX11_value 19 = .ok (.getfield 122, 3) := by decide +kernel
theorem dX11_value_22 : decode cX11_value 22 = .ok (.iload_n 1, 1) := by decide +kernel
theorem dX11_value_23 : decode cX11_value 23 = .ok (.iaload, 1) := by decide +kernel
theorem dX11_value_24 : decode cX11_value 24 = .ok (.iconst (-1), 1) := by decide +kernel
theorem dX11_value_25 : decode cX11_value 25 = .ok (.if_icmp .eq 17, 3) := by decide +kernel
theorem dX11_value_28 : decode cX11_value 28 = .ok (.aload_n 0, 1) := by decide +kernel
theorem dX11_value_29 : decode cX11_value 29 = .ok (.getfield 131, 3) := by decide +kernel
theorem dX11_value_32 : decode cX11_value 32 = .ok (.bipush 8, 2) := by decide +kernel
theorem dX11_value_34 : decode cX11_value 34 = .ok (.iload_n 1, 1) := by decide +kernel
theorem dX11_value_35 : decode cX11_value 35 = .ok (.imul, 1) := by decide +kernel
theorem dX11_value_36 : decode cX11_value 36 = .ok (.iload_n 2, 1) := by decide +kernel
theorem dX11_value_37 : decode cX11_value 37 = .ok (.iadd, 1) := by decide +kernel
theorem dX11_value_38 : decode cX11_value 38 = .ok (.laload, 1) := by decide +kernel
theorem dX11_value_39 : decode cX11_value 39 = .ok (.goto 4, 3) := by decide +kernel
theorem dX11_value_42 : decode cX11_value 42 = .ok (.lconst 0, 1) := by decide +kernel
theorem dX11_value_43 : decode cX11_value 43 = .ok (.lreturn, 1) := by decide +kernel
theorem dX11_sent_0 : decode cX11_sent 0 = .ok (.aload_n 0, 1) := by decide +kernel
theorem dX11_sent_1 : decode cX11_sent 1 = .ok (.iload_n 1, 1) := by decide +kernel
theorem dX11_sent_2 : decode cX11_sent 2 = .ok (.invokevirtual 301, 3) := by decide +kernel
theorem dX11_sent_5 : decode cX11_sent 5 = .ok (.ifCond .eq 22, 3) := by decide +kernel
theorem dX11_sent_8 : decode cX11_sent 8 = .ok (.aload_n 0, 1) := by decide +kernel
theorem dX11_sent_9 : decode cX11_sent 9 = .ok (.iload_n 2, 1) := by decide +kernel
theorem dX11_sent_10 : decode cX11_sent 10 = .ok (.invokevirtual 295, 3) := by decide +kernel
theorem dX11_sent_13 : decode cX11_sent 13 = .ok (.ifCond .eq 14, 3) := by decide +kernel
theorem dX11_sent_16 : decode cX11_sent 16 = .ok (.iload_n 3, 1) := by decide +kernel
theorem dX11_sent_17 : decode cX11_sent 17 = .ok (.iconst (-1), 1) := by decide +kernel
theorem dX11_sent_18 : decode cX11_sent 18 = .ok (.if_icmp .lt 9, 3) := by decide +kernel
theorem dX11_sent_21 : decode cX11_sent 21 = .ok (.iload_n 3, 1) := by decide +kernel
theorem dX11_sent_22 : decode cX11_sent 22 = .ok (.bipush 7, 2) := by decide +kernel
theorem dX11_sent_24 : decode cX11_sent 24 = .ok (.if_icmp .le 5, 3) := by decide +kernel
theorem dX11_sent_27 : decode cX11_sent 27 = .ok (.lconst 0, 1) := by decide +kernel
theorem dX11_sent_28 : decode cX11_sent 28 = .ok (.lreturn, 1) := by decide +kernel
theorem dX11_sent_29 : decode cX11_sent 29 = .ok (.iload_n 3, 1) := by decide +kernel
theorem dX11_sent_30 : decode cX11_sent 30 = .ok (.iconst (-1), 1) := by decide +kernel
theorem dX11_sent_31 : decode cX11_sent 31 = .ok (.if_icmp .eq 20, 3) := by decide +kernel
theorem dX11_sent_34 : decode cX11_sent 34 = .ok (.aload_n 0, 1) := by decide +kernel
theorem dX11_sent_35 : decode cX11_sent 35 = .ok (.getfield 143, 3) := by decide +kernel
theorem dX11_sent_38 : decode cX11_sent 38 = .ok (.bipush 8, 2) := by decide +kernel
theorem dX11_sent_40 : decode cX11_sent 40 = .ok (.bipush 6, 2) := by decide +kernel
theorem dX11_sent_42 : decode cX11_sent 42 = .ok (.iload_n 1, 1) := by decide +kernel
theorem dX11_sent_43 : decode cX11_sent 43 = .ok (.imul, 1) := by decide +kernel
theorem dX11_sent_44 : decode cX11_sent 44 = .ok (.iload_n 2, 1) := by decide +kernel
theorem dX11_sent_45 : decode cX11_sent 45 = .ok (.iadd, 1) := by decide +kernel
theorem dX11_sent_46 : decode cX11_sent 46 = .ok (.imul, 1) := by decide +kernel
theorem dX11_sent_47 : decode cX11_sent 47 = .ok (.iload_n 3, 1) := by decide +kernel
theorem dX11_sent_48 : decode cX11_sent 48 = .ok (.iadd, 1) := by decide +kernel
theorem dX11_sent_49 : decode cX11_sent 49 = .ok (.laload, 1) := by decide +kernel
theorem dX11_sent_50 : decode cX11_sent 50 = .ok (.lreturn, 1) := by decide +kernel
theorem dX11_sent_51 : decode cX11_sent 51 = .ok (.lconst 0, 1) := by decide +kernel
theorem dX11_sent_52 : decode cX11_sent 52 = .ok (.lstore 4, 2) := by decide +kernel
theorem dX11_sent_54 : decode cX11_sent 54 = .ok (.iconst 0, 1) := by decide +kernel
theorem dX11_sent_55 : decode cX11_sent 55 = .ok (.istore 6, 2) := by decide +kernel
theorem dX11_sent_57 : decode cX11_sent 57 = .ok (.iload 6, 2) := by decide +kernel
theorem dX11_sent_59 : decode cX11_sent 59 = .ok (.bipush 8, 2) := by decide +kernel
theorem dX11_sent_61 : decode cX11_sent 61 = .ok (.if_icmp .ge 31, 3) := by decide +kernel
theorem dX11_sent_64 : decode cX11_sent 64 = .ok (.lload 4, 2) := by decide +kernel
theorem dX11_sent_66 : decode cX11_sent 66 = .ok (.aload_n 0, 1) := by decide +kernel
theorem dX11_sent_67 : decode cX11_sent 67 = .ok (.getfield 143, 3) := by decide +kernel
theorem dX11_sent_70 : decode cX11_sent 70 = .ok (.bipush 8, 2) := by decide +kernel
theorem dX11_sent_72 : decode cX11_sent 72 = .ok (.bipush 6, 2) := by decide +kernel
theorem dX11_sent_74 : decode cX11_sent 74 = .ok (.iload_n 1, 1) := by decide +kernel
theorem dX11_sent_75 : decode cX11_sent 75 = .ok (.imul, 1) := by decide +kernel
theorem dX11_sent_76 : decode cX11_sent 76 = .ok (.iload_n 2, 1) := by decide +kernel
theorem dX11_sent_77 : decode cX11_sent 77 = .ok (.iadd, 1) := by decide +kernel
theorem dX11_sent_78 : decode cX11_sent 78 = .ok (.imul, 1) := by decide +kernel
theorem dX11_sent_79 : decode cX11_sent 79 = .ok (.iload 6, 2) := by decide +kernel
theorem dX11_sent_81 : decode cX11_sent 81 = .ok (.iadd, 1) := by decide +kernel
theorem dX11_sent_82 : decode cX11_sent 82 = .ok (.laload, 1) := by decide +kernel
theorem dX11_sent_83 : decode cX11_sent 83 = .ok (.ladd, 1) := by decide +kernel
theorem dX11_sent_84 : decode cX11_sent 84 = .ok (.lstore 4, 2) := by decide +kernel
theorem dX11_sent_86 : decode cX11_sent 86 = .ok (.iinc 6 1, 3) := by decide +kernel
theorem dX11_sent_89 : decode cX11_sent 89 = .ok (.goto (-32), 3) := by decide +kernel
theorem dX11_sent_92 : decode cX11_sent 92 = .ok (.lload 4, 2) := by decide +kernel
theorem dX11_sent_94 : decode cX11_sent 94 = .ok (.lreturn, 1) := by decide +kernel
theorem dX11_marks_0 : decode cX11_marks 0 = .ok (.aload_n 0, 1) := by decide +kernel
theorem dX11_marks_1 : decode cX11_marks 1 = .ok (.iload_n 1, 1) := by decide +kernel
theorem dX11_marks_2 : decode cX11_marks 2 = .ok (.invokevirtual 301, 3) := by decide +kernel
theorem dX11_marks_5 : decode cX11_marks 5 = .ok (.ifCond .eq 39, 3) := by decide +kernel
theorem dX11_marks_8 : decode cX11_marks 8 = .ok (.aload_n 0, 1) := by decide +kernel
theorem dX11_marks_9 : decode cX11_marks 9 = .ok (.iload_n 2, 1) := by decide +kernel
theorem dX11_marks_10 : decode cX11_marks 10 = .ok (.invokevirtual 295, 3) := by decide +kernel
theorem dX11_marks_13 : decode cX11_marks 13 = .ok (.ifCond .eq 31, 3) := by decide +kernel
theorem dX11_marks_16 : decode cX11_marks 16 = .ok (.aload_n 0, 1) := by decide +kernel
theorem dX11_marks_17 : decode cX11_marks 17 = .ok (.getfield 134, 3) := by decide +kernel
theorem dX11_marks_20 : decode cX11_marks 20 = .ok (.bipush 6, 2) := by decide +kernel
theorem dX11_marks_22 : decode cX11_marks 22 = .ok (.iload_n 1, 1) := by decide +kernel
theorem dX11_marks_23 : decode cX11_marks 23 = .ok (.imul, 1) := by decide +kernel
theorem dX11_marks_24 : decode cX11_marks 24 = .ok (.iload_n 2, 1) := by decide +kernel
theorem dX11_marks_25 : decode cX11_marks 25 = .ok (.iadd, 1) := by decide +kernel
theorem dX11_marks_26 : decode cX11_marks 26 = .ok (.baload, 1) := by decide +kernel
theorem dX11_marks_27 : decode cX11_marks 27 = .ok (.ifCond .eq 17, 3) := by decide +kernel
theorem dX11_marks_30 : decode cX11_marks 30 = .ok (.aload_n 0, 1) := by decide +kernel
theorem dX11_marks_31 : decode cX11_marks 31 = .ok (.getfield 140, 3) := by decide +kernel
theorem dX11_marks_34 : decode cX11_marks 34 = .ok (.bipush 6, 2) := by decide +kernel
theorem dX11_marks_36 : decode cX11_marks 36 = .ok (.iload_n 1, 1) := by decide +kernel
theorem dX11_marks_37 : decode cX11_marks 37 = .ok (.imul, 1) := by decide +kernel
theorem dX11_marks_38 : decode cX11_marks 38 = .ok (.iload_n 2, 1) := by decide +kernel
theorem dX11_marks_39 : decode cX11_marks 39 = .ok (.iadd, 1) := by decide +kernel
theorem dX11_marks_40 : decode cX11_marks 40 = .ok (.iaload, 1) := by decide +kernel
theorem dX11_marks_41 : decode cX11_marks 41 = .ok (.goto 4, 3) := by decide +kernel
theorem dX11_marks_44 : decode cX11_marks 44 = .ok (.iconst (-1), 1) := by decide +kernel
theorem dX11_marks_45 : decode cX11_marks 45 = .ok (.ireturn, 1) := by decide +kernel
theorem dX11_table_0 : decode cX11_table 0 = .ok (.iload_n 1, 1) := by decide +kernel
theorem dX11_table_1 : decode cX11_table 1 = .ok (.invokestatic 292, 3) := by decide +kernel
theorem dX11_table_4 : decode cX11_table 4 = .ok (.ifCond .ne 5, 3) := by decide +kernel
theorem dX11_table_7 : decode cX11_table 7 = .ok (.iconst (-1), 1) := by decide +kernel
theorem dX11_table_8 : decode cX11_table 8 = .ok (.ireturn, 1) := by decide +kernel
theorem dX11_table_9 : decode cX11_table 9 = .ok (.iload_n 2, 1) := by decide +kernel
theorem dX11_table_10 : decode cX11_table 10 = .ok (.tableswitch 69 0 4 #[34, 41, 48, 55, 62], 34) := by decide +kernel
theorem dX11_table_44 : decode cX11_table 44 = .ok (.aload_n 0, 1) := by decide +kernel
theorem dX11_table_45 : decode cX11_table 45 = .ok (.getfield 89, 3) := by decide +kernel
theorem dX11_table_48 : decode cX11_table 48 = .ok (.iload_n 1, 1) := by decide +kernel
theorem dX11_table_49 : decode cX11_table 49 = .ok (.iaload, 1) := by decide +kernel
theorem dX11_table_50 : decode cX11_table 50 = .ok (.ireturn, 1) := by decide +kernel
theorem dX11_table_51 : decode cX11_table 51 = .ok (.aload_n 0, 1) := by decide +kernel
theorem dX11_table_52 : decode cX11_table 52 = .ok (.getfield 101, 3) := by decide +kernel
theorem dX11_table_55 : decode cX11_table 55 = .ok (.iload_n 1, 1) := by decide +kernel
theorem dX11_table_56 : decode cX11_table 56 = .ok (.iaload, 1) := by decide +kernel
theorem dX11_table_57 : decode cX11_table 57 = .ok (.ireturn, 1) := by decide +kernel
theorem dX11_table_58 : decode cX11_table 58 = .ok (.aload_n 0, 1) := by decide +kernel
theorem dX11_table_59 : decode cX11_table 59 = .ok (.getfield 92, 3) := by decide +kernel
theorem dX11_table_62 : decode cX11_table 62 = .ok (.iload_n 1, 1) := by decide +kernel
theorem dX11_table_63 : decode cX11_table 63 = .ok (.iaload, 1) := by decide +kernel
theorem dX11_table_64 : decode cX11_table 64 = .ok (.ireturn, 1) := by decide +kernel
theorem dX11_table_65 : decode cX11_table 65 = .ok (.aload_n 0, 1) := by decide +kernel
theorem dX11_table_66 : decode cX11_table 66 = .ok (.getfield 83, 3) := by decide +kernel
theorem dX11_table_69 : decode cX11_table 69 = .ok (.iload_n 1, 1) := by decide +kernel
theorem dX11_table_70 : decode cX11_table 70 = .ok (.iaload, 1) := by decide +kernel
theorem dX11_table_71 : decode cX11_table 71 = .ok (.ireturn, 1) := by decide +kernel
theorem dX11_table_72 : decode cX11_table 72 = .ok (.aload_n 0, 1) := by decide +kernel
theorem dX11_table_73 : decode cX11_table 73 = .ok (.getfield 86, 3) := by decide +kernel
theorem dX11_table_76 : decode cX11_table 76 = .ok (.iload_n 1, 1) := by decide +kernel
theorem dX11_table_77 : decode cX11_table 77 = .ok (.iaload, 1) := by decide +kernel
theorem dX11_table_78 : decode cX11_table 78 = .ok (.ireturn, 1) := by decide +kernel
theorem dX11_table_79 : decode cX11_table 79 = .ok (.iconst (-1), 1) := by decide +kernel
theorem dX11_table_80 : decode cX11_table 80 = .ok (.ireturn, 1) := by decide +kernel
theorem dX11_count_0 : decode cX11_count 0 = .ok (.iconst 0, 1) := by decide +kernel
theorem dX11_count_1 : decode cX11_count 1 = .ok (.istore_n 2, 1) := by decide +kernel
theorem dX11_count_2 : decode cX11_count 2 = .ok (.iload_n 1, 1) := by decide +kernel
theorem dX11_count_3 : decode cX11_count 3 = .ok (.tableswitch 174 0 7 #[45, 55, 60, 65, 70, 103, 144, 169], 45) := by decide +kernel
theorem dX11_count_48 : decode cX11_count 48 = .ok (.aload_n 0, 1) := by decide +kernel
theorem dX11_count_49 : decode cX11_count 49 = .ok (.getfield 40, 3) := by decide +kernel
theorem dX11_count_52 : decode cX11_count 52 = .ok (.aload_n 0, 1) := by decide +kernel
theorem dX11_count_53 : decode cX11_count 53 = .ok (.getfield 234, 3) := by decide +kernel
theorem dX11_count_56 : decode cX11_count 56 = .ok (.iaload, 1) := by decide +kernel
theorem dX11_count_57 : decode cX11_count 57 = .ok (.ireturn, 1) := by decide +kernel
theorem dX11_count_58 : decode cX11_count 58 = .ok (.aload_n 0, 1) := by decide +kernel
theorem dX11_count_59 : decode cX11_count 59 = .ok (.getfield 289, 3) := by decide +kernel
theorem dX11_count_62 : decode cX11_count 62 = .ok (.ireturn, 1) := by decide +kernel
theorem dX11_count_63 : decode cX11_count 63 = .ok (.aload_n 0, 1) := by decide +kernel
theorem dX11_count_64 : decode cX11_count 64 = .ok (.getfield 314, 3) := by decide +kernel
theorem dX11_count_67 : decode cX11_count 67 = .ok (.ireturn, 1) := by decide +kernel
theorem dX11_count_68 : decode cX11_count 68 = .ok (.aload_n 0, 1) := by decide +kernel
theorem dX11_count_69 : decode cX11_count 69 = .ok (.getfield 168, 3) := by decide +kernel
theorem dX11_count_72 : decode cX11_count 72 = .ok (.ireturn, 1) := by decide +kernel
theorem dX11_count_73 : decode cX11_count 73 = .ok (.iconst 0, 1) := by decide +kernel
theorem dX11_count_74 : decode cX11_count 74 = .ok (.istore_n 3, 1) := by decide +kernel
theorem dX11_count_75 : decode cX11_count 75 = .ok (.iload_n 3, 1) := by decide +kernel
theorem dX11_count_76 : decode cX11_count 76 = .ok (.iconst 3, 1) := by decide +kernel
theorem dX11_count_77 : decode cX11_count 77 = .ok (.if_icmp .ge 27, 3) := by decide +kernel
theorem dX11_count_80 : decode cX11_count 80 = .ok (.iload_n 2, 1) := by decide +kernel
theorem dX11_count_81 : decode cX11_count 81 = .ok (.aload_n 0, 1) := by decide +kernel
theorem dX11_count_82 : decode cX11_count 82 = .ok (.getfield 116, 3) := by decide +kernel
theorem dX11_count_85 : decode cX11_count 85 = .ok (.iload_n 3, 1) := by decide +kernel
theorem dX11_count_86 : decode cX11_count 86 = .ok (.iaload, 1) := by decide +kernel
theorem dX11_count_87 : decode cX11_count 87 = .ok (.iconst (-1), 1) := by decide +kernel
theorem dX11_count_88 : decode cX11_count 88 = .ok (.if_icmp .eq 7, 3) := by decide +kernel
theorem dX11_count_91 : decode cX11_count 91 = .ok (.iconst 1, 1) := by decide +kernel
theorem dX11_count_92 : decode cX11_count 92 = .ok (.goto 4, 3) := by decide +kernel
theorem dX11_count_95 : decode cX11_count 95 = .ok (.iconst 0, 1) := by decide +kernel
theorem dX11_count_96 : decode cX11_count 96 = .ok (.iadd, 1) := by decide +kernel
theorem dX11_count_97 : decode cX11_count 97 = .ok (.istore_n 2, 1) := by decide +kernel
theorem dX11_count_98 : decode cX11_count 98 = .ok (.iinc 3 1, 3) := by decide +kernel
theorem dX11_count_101 : decode cX11_count 101 = .ok (.goto (-26), 3) := by decide +kernel
theorem dX11_count_104 : decode cX11_count 104 = .ok (.iload_n 2, 1) := by decide +kernel
theorem dX11_count_105 : decode cX11_count 105 = .ok (.ireturn, 1) := by decide +kernel
theorem dX11_count_106 : decode cX11_count 106 = .ok (.iconst 0, 1) := by decide +kernel
theorem dX11_count_107 : decode cX11_count 107 = .ok (.istore_n 3, 1) := by decide +kernel
theorem dX11_count_108 : decode cX11_count 108 = .ok (.iload_n 3, 1) := by decide +kernel
theorem dX11_count_109 : decode cX11_count 109 = .ok (.aload_n 0, 1) := by decide +kernel
theorem dX11_count_110 : decode cX11_count 110 = .ok (.getfield 40, 3) := by decide +kernel
theorem dX11_count_113 : decode cX11_count 113 = .ok (.aload_n 0, 1) := by decide +kernel
theorem dX11_count_114 : decode cX11_count 114 = .ok (.getfield 234, 3) := by decide +kernel
theorem dX11_count_117 : decode cX11_count 117 = .ok (.iaload, 1) := by decide +kernel
theorem dX11_count_118 : decode cX11_count 118 = .ok (.if_icmp .ge 27, 3) := by decide +kernel
theorem dX11_count_121 : decode cX11_count 121 = .ok (.iload_n 2, 1) := by decide +kernel
theorem dX11_count_122 : decode cX11_count 122 = .ok (.aload_n 0, 1) := by decide +kernel
theorem dX11_count_123 : decode cX11_count 123 = .ok (.getfield 122, 3) := by decide +kernel
theorem dX11_count_126 : decode cX11_count 126 = .ok (.iload_n 3, 1) := by decide +kernel
theorem dX11_count_127 : decode cX11_count 127 = .ok (.iaload, 1) := by decide +kernel
theorem dX11_count_128 : decode cX11_count 128 = .ok (.iconst (-1), 1) := by decide +kernel
theorem dX11_count_129 : decode cX11_count 129 = .ok (.if_icmp .eq 7, 3) := by decide +kernel
theorem dX11_count_132 : decode cX11_count 132 = .ok (.iconst 1, 1) := by decide +kernel
theorem dX11_count_133 : decode cX11_count 133 = .ok (.goto 4, 3) := by decide +kernel
theorem dX11_count_136 : decode cX11_count 136 = .ok (.iconst 0, 1) := by decide +kernel
theorem dX11_count_137 : decode cX11_count 137 = .ok (.iadd, 1) := by decide +kernel
theorem dX11_count_138 : decode cX11_count 138 = .ok (.istore_n 2, 1) := by decide +kernel
theorem dX11_count_139 : decode cX11_count 139 = .ok (.iinc 3 1, 3) := by decide +kernel
theorem dX11_count_142 : decode cX11_count 142 = .ok (.goto (-34), 3) := by decide +kernel
theorem dX11_count_145 : decode cX11_count 145 = .ok (.iload_n 2, 1) := by decide +kernel
theorem dX11_count_146 : decode cX11_count 146 = .ok (.ireturn, 1) := by decide +kernel
theorem dX11_count_147 : decode cX11_count 147 = .ok (.iconst 0, 1) := by decide +kernel
theorem dX11_count_148 : decode cX11_count 148 = .ok (.istore_n 3, 1) := by decide +kernel
theorem dX11_count_149 : decode cX11_count 149 = .ok (.iload_n 3, 1) := by decide +kernel
theorem dX11_count_150 : decode cX11_count 150 = .ok (.bipush 42, 2) := by decide +kernel
theorem dX11_count_152 : decode cX11_count 152 = .ok (.if_icmp .ge 18, 3) := by decide +kernel
theorem dX11_count_155 : decode cX11_count 155 = .ok (.iload_n 2, 1) := by decide +kernel
theorem dX11_count_156 : decode cX11_count 156 = .ok (.aload_n 0, 1) := by decide +kernel
theorem dX11_count_157 : decode cX11_count 157 = .ok (.getfield 140, 3) := by decide +kernel
theorem dX11_count_160 : decode cX11_count 160 = .ok (.iload_n 3, 1) := by decide +kernel
theorem dX11_count_161 : decode cX11_count 161 = .ok (.iaload, 1) := by decide +kernel
theorem dX11_count_162 : decode cX11_count 162 = .ok (.iadd, 1) := by decide +kernel
theorem dX11_count_163 : decode cX11_count 163 = .ok (.istore_n 2, 1) := by decide +kernel
theorem dX11_count_164 : decode cX11_count 164 = .ok (.iinc 3 1, 3) := by decide +kernel
theorem dX11_count_167 : decode cX11_count 167 = .ok (.goto (-18), 3) := by decide +kernel
theorem dX11_count_170 : decode cX11_count 170 = .ok (.iload_n 2, 1) := by decide +kernel
theorem dX11_count_171 : decode cX11_count 171 = .ok (.ireturn, 1) := by decide +kernel
theorem dX11_count_172 : decode cX11_count 172 = .ok (.aload_n 0, 1) := by decide +kernel
theorem dX11_count_173 : decode cX11_count 173 = .ok (.getfield 171, 3) := by decide +kernel
theorem dX11_count_176 : decode cX11_count 176 = .ok (.ireturn, 1) := by decide +kernel
theorem dX11_count_177 : decode cX11_count 177 = .ok (.iconst (-1), 1) := by decide +kernel
theorem dX11_count_178 : decode cX11_count 178 = .ok (.ireturn, 1) := by decide +kernel
theorem dJ6_bitCount_0f7a4_0 : decode cJ6_bitCount_0f7a4 0 = .ok (.iload_n 0, 1) := by decide +kernel
theorem dJ6_bitCount_0f7a4_1 : decode cJ6_bitCount_0f7a4 1 = .ok (.iload_n 0, 1) := by decide +kernel
theorem dJ6_bitCount_0f7a4_2 : decode cJ6_bitCount_0f7a4 2 = .ok (.iconst 1, 1) := by decide +kernel
theorem dJ6_bitCount_0f7a4_3 : decode cJ6_bitCount_0f7a4 3 = .ok (.iushr, 1) := by decide +kernel
theorem dJ6_bitCount_0f7a4_4 : decode cJ6_bitCount_0f7a4 4 = .ok (.ldc_w 265, 3) := by decide +kernel
theorem dJ6_bitCount_0f7a4_7 : decode cJ6_bitCount_0f7a4 7 = .ok (.iand, 1) := by decide +kernel
theorem dJ6_bitCount_0f7a4_8 : decode cJ6_bitCount_0f7a4 8 = .ok (.isub, 1) := by decide +kernel
theorem dJ6_bitCount_0f7a4_9 : decode cJ6_bitCount_0f7a4 9 = .ok (.istore_n 0, 1) := by decide +kernel
theorem dJ6_bitCount_0f7a4_10 : decode cJ6_bitCount_0f7a4 10 = .ok (.iload_n 0, 1) := by decide +kernel
theorem dJ6_bitCount_0f7a4_11 : decode cJ6_bitCount_0f7a4 11 = .ok (.ldc_w 266, 3) := by decide +kernel
theorem dJ6_bitCount_0f7a4_14 : decode cJ6_bitCount_0f7a4 14 = .ok (.iand, 1) := by decide +kernel
theorem dJ6_bitCount_0f7a4_15 : decode cJ6_bitCount_0f7a4 15 = .ok (.iload_n 0, 1) := by decide +kernel
theorem dJ6_bitCount_0f7a4_16 : decode cJ6_bitCount_0f7a4 16 = .ok (.iconst 2, 1) := by decide +kernel
theorem dJ6_bitCount_0f7a4_17 : decode cJ6_bitCount_0f7a4 17 = .ok (.iushr, 1) := by decide +kernel
theorem dJ6_bitCount_0f7a4_18 : decode cJ6_bitCount_0f7a4 18 = .ok (.ldc_w 266, 3) := by decide +kernel
theorem dJ6_bitCount_0f7a4_21 : decode cJ6_bitCount_0f7a4 21 = .ok (.iand, 1) := by decide +kernel
theorem dJ6_bitCount_0f7a4_22 : decode cJ6_bitCount_0f7a4 22 = .ok (.iadd, 1) := by decide +kernel
theorem dJ6_bitCount_0f7a4_23 : decode cJ6_bitCount_0f7a4 23 = .ok (.istore_n 0, 1) := by decide +kernel
theorem dJ6_bitCount_0f7a4_24 : decode cJ6_bitCount_0f7a4 24 = .ok (.iload_n 0, 1) := by decide +kernel
theorem dJ6_bitCount_0f7a4_25 : decode cJ6_bitCount_0f7a4 25 = .ok (.iload_n 0, 1) := by decide +kernel
theorem dJ6_bitCount_0f7a4_26 : decode cJ6_bitCount_0f7a4 26 = .ok (.iconst 4, 1) := by decide +kernel
theorem dJ6_bitCount_0f7a4_27 : decode cJ6_bitCount_0f7a4 27 = .ok (.iushr, 1) := by decide +kernel
theorem dJ6_bitCount_0f7a4_28 : decode cJ6_bitCount_0f7a4 28 = .ok (.iadd, 1) := by decide +kernel
theorem dJ6_bitCount_0f7a4_29 : decode cJ6_bitCount_0f7a4 29 = .ok (.ldc_w 267, 3) := by decide +kernel
theorem dJ6_bitCount_0f7a4_32 : decode cJ6_bitCount_0f7a4 32 = .ok (.iand, 1) := by decide +kernel
theorem dJ6_bitCount_0f7a4_33 : decode cJ6_bitCount_0f7a4 33 = .ok (.istore_n 0, 1) := by decide +kernel
theorem dJ6_bitCount_0f7a4_34 : decode cJ6_bitCount_0f7a4 34 = .ok (.iload_n 0, 1) := by decide +kernel
theorem dJ6_bitCount_0f7a4_35 : decode cJ6_bitCount_0f7a4 35 = .ok (.iload_n 0, 1) := by decide +kernel
theorem dJ6_bitCount_0f7a4_36 : decode cJ6_bitCount_0f7a4 36 = .ok (.bipush 8, 2) := by decide +kernel
theorem dJ6_bitCount_0f7a4_38 : decode cJ6_bitCount_0f7a4 38 = .ok (.iushr, 1) := by decide +kernel
theorem dJ6_bitCount_0f7a4_39 : decode cJ6_bitCount_0f7a4 39 = .ok (.iadd, 1) := by decide +kernel
theorem dJ6_bitCount_0f7a4_40 : decode cJ6_bitCount_0f7a4 40 = .ok (.istore_n 0, 1) := by decide +kernel
theorem dJ6_bitCount_0f7a4_41 : decode cJ6_bitCount_0f7a4 41 = .ok (.iload_n 0, 1) := by decide +kernel
theorem dJ6_bitCount_0f7a4_42 : decode cJ6_bitCount_0f7a4 42 = .ok (.iload_n 0, 1) := by decide +kernel
theorem dJ6_bitCount_0f7a4_43 : decode cJ6_bitCount_0f7a4 43 = .ok (.bipush 16, 2) := by decide +kernel
theorem dJ6_bitCount_0f7a4_45 : decode cJ6_bitCount_0f7a4 45 = .ok (.iushr, 1) := by decide +kernel
theorem dJ6_bitCount_0f7a4_46 : decode cJ6_bitCount_0f7a4 46 = .ok (.iadd, 1) := by decide +kernel
theorem dJ6_bitCount_0f7a4_47 : decode cJ6_bitCount_0f7a4 47 = .ok (.istore_n 0, 1) := by decide +kernel
theorem dJ6_bitCount_0f7a4_48 : decode cJ6_bitCount_0f7a4 48 = .ok (.iload_n 0, 1) := by decide +kernel
theorem dJ6_bitCount_0f7a4_49 : decode cJ6_bitCount_0f7a4 49 = .ok (.bipush 63, 2) := by decide +kernel
theorem dJ6_bitCount_0f7a4_51 : decode cJ6_bitCount_0f7a4 51 = .ok (.iand, 1) := by decide +kernel
theorem dJ6_bitCount_0f7a4_52 : decode cJ6_bitCount_0f7a4 52 = .ok (.ireturn, 1) := by decide +kernel
theorem dJ9_max_7cf53_0 : decode cJ9_max_7cf53 0 = .ok (.iload_n 0, 1) := by decide +kernel
theorem dJ9_max_7cf53_1 : decode cJ9_max_7cf53 1 = .ok (.iload_n 1, 1) := by decide +kernel
theorem dJ9_max_7cf53_2 : decode cJ9_max_7cf53 2 = .ok (.if_icmp .lt 7, 3) := by decide +kernel
theorem dJ9_max_7cf53_5 : decode cJ9_max_7cf53 5 = .ok (.iload_n 0, 1) := by decide +kernel
theorem dJ9_max_7cf53_6 : decode cJ9_max_7cf53 6 = .ok (.goto 4, 3) := by decide +kernel
theorem dJ9_max_7cf53_9 : decode cJ9_max_7cf53 9 = .ok (.iload_n 1, 1) := by decide +kernel
theorem dJ9_max_7cf53_10 : decode cJ9_max_7cf53 10 = .ok (.ireturn, 1) := by decide +kernel
theorem dJ9_max_f86c9_0 : decode cJ9_max_f86c9 0 = .ok (.lload_n 0, 1) := by decide +kernel
theorem dJ9_max_f86c9_1 : decode cJ9_max_f86c9 1 = .ok (.lload_n 2, 1) := by decide +kernel
theorem dJ9_max_f86c9_2 : decode cJ9_max_f86c9 2 = .ok (.lcmp, 1) := by decide +kernel
theorem dJ9_max_f86c9_3 : decode cJ9_max_f86c9 3 = .ok (.ifCond .lt 7, 3) := by decide +kernel
theorem dJ9_max_f86c9_6 : decode cJ9_max_f86c9 6 = .ok (.lload_n 0, 1) := by decide +kernel
theorem dJ9_max_f86c9_7 : decode cJ9_max_f86c9 7 = .ok (.goto 4, 3) := by decide +kernel
theorem dJ9_max_f86c9_10 : decode cJ9_max_f86c9 10 = .ok (.lload_n 2, 1) := by decide +kernel
theorem dJ9_max_f86c9_11 : decode cJ9_max_f86c9 11 = .ok (.lreturn, 1) := by decide +kernel
theorem dJ9_min_7cf53_0 : decode cJ9_min_7cf53 0 = .ok (.iload_n 0, 1) := by decide +kernel
theorem dJ9_min_7cf53_1 : decode cJ9_min_7cf53 1 = .ok (.iload_n 1, 1) := by decide +kernel
theorem dJ9_min_7cf53_2 : decode cJ9_min_7cf53 2 = .ok (.if_icmp .gt 7, 3) := by decide +kernel
theorem dJ9_min_7cf53_5 : decode cJ9_min_7cf53 5 = .ok (.iload_n 0, 1) := by decide +kernel
theorem dJ9_min_7cf53_6 : decode cJ9_min_7cf53 6 = .ok (.goto 4, 3) := by decide +kernel
theorem dJ9_min_7cf53_9 : decode cJ9_min_7cf53 9 = .ok (.iload_n 1, 1) := by decide +kernel
theorem dJ9_min_7cf53_10 : decode cJ9_min_7cf53 10 = .ok (.ireturn, 1) := by decide +kernel
theorem dL_law_0 : decode cL_law 0 = .ok (.new 7, 3) := by decide +kernel
theorem dL_law_3 : decode cL_law 3 = .ok (.dup, 1) := by decide +kernel
theorem dL_law_4 : decode cL_law 4 = .ok (.invokespecial 9, 3) := by decide +kernel
theorem dL_law_7 : decode cL_law 7 = .ok (.astore_n 1, 1) := by decide +kernel
theorem dL_law_8 : decode cL_law 8 = .ok (.new 10, 3) := by decide +kernel
theorem dL_law_11 : decode cL_law 11 = .ok (.dup, 1) := by decide +kernel
theorem dL_law_12 : decode cL_law 12 = .ok (.invokespecial 12, 3) := by decide +kernel
theorem dL_law_15 : decode cL_law 15 = .ok (.astore_n 2, 1) := by decide +kernel
theorem dL_law_16 : decode cL_law 16 = .ok (.iconst 0, 1) := by decide +kernel
theorem dL_law_17 : decode cL_law 17 = .ok (.istore_n 3, 1) := by decide +kernel
theorem dL_law_18 : decode cL_law 18 = .ok (.iload_n 3, 1) := by decide +kernel
theorem dL_law_19 : decode cL_law 19 = .ok (.aload_n 0, 1) := by decide +kernel
theorem dL_law_20 : decode cL_law 20 = .ok (.arraylength, 1) := by decide +kernel
theorem dL_law_21 : decode cL_law 21 = .ok (.bipush 6, 2) := by decide +kernel
theorem dL_law_23 : decode cL_law 23 = .ok (.isub, 1) := by decide +kernel
theorem dL_law_24 : decode cL_law 24 = .ok (.if_icmp .gt 799, 3) := by decide +kernel
theorem dL_law_27 : decode cL_law 27 = .ok (.aload_n 0, 1) := by decide +kernel
theorem dL_law_28 : decode cL_law 28 = .ok (.iload_n 3, 1) := by decide +kernel
theorem dL_law_29 : decode cL_law 29 = .ok (.iaload, 1) := by decide +kernel
theorem dL_law_30 : decode cL_law 30 = .ok (.bipush 31, 2) := by decide +kernel
theorem dL_law_32 : decode cL_law 32 = .ok (.iand, 1) := by decide +kernel
theorem dL_law_33 : decode cL_law 33 = .ok (.tableswitch 784 0 22 #[107, 170, 193, 206, 219, 262, 305, 328, 351, 384, 433, 466, 489, 502, 515, 538, 561, 584, 617, 651, 695, 728, 761], 107) := by decide +kernel
theorem dL_law_140 : decode cL_law 140 = .ok (.aload_n 1, 1) := by decide +kernel
theorem dL_law_141 : decode cL_law 141 = .ok (.aload_n 0, 1) := by decide +kernel
theorem dL_law_142 : decode cL_law 142 = .ok (.iload_n 3, 1) := by decide +kernel
theorem dL_law_143 : decode cL_law 143 = .ok (.iconst 1, 1) := by decide +kernel
theorem dL_law_144 : decode cL_law 144 = .ok (.iadd, 1) := by decide +kernel
theorem dL_law_145 : decode cL_law 145 = .ok (.iaload, 1) := by decide +kernel
theorem dL_law_146 : decode cL_law 146 = .ok (.aload_n 0, 1) := by decide +kernel
theorem dL_law_147 : decode cL_law 147 = .ok (.iload_n 3, 1) := by decide +kernel
theorem dL_law_148 : decode cL_law 148 = .ok (.iconst 2, 1) := by decide +kernel
theorem dL_law_149 : decode cL_law 149 = .ok (.iadd, 1) := by decide +kernel
theorem dL_law_150 : decode cL_law 150 = .ok (.iaload, 1) := by decide +kernel
theorem dL_law_151 : decode cL_law 151 = .ok (.aload_n 0, 1) := by decide +kernel
theorem dL_law_152 : decode cL_law 152 = .ok (.iload_n 3, 1) := by decide +kernel
theorem dL_law_153 : decode cL_law 153 = .ok (.iconst 3, 1) := by decide +kernel
theorem dL_law_154 : decode cL_law 154 = .ok (.iadd, 1) := by decide +kernel
theorem dL_law_155 : decode cL_law 155 = .ok (.iaload, 1) := by decide +kernel
theorem dL_law_156 : decode cL_law 156 = .ok (.aload_n 0, 1) := by decide +kernel
theorem dL_law_157 : decode cL_law 157 = .ok (.iload_n 3, 1) := by decide +kernel
theorem dL_law_158 : decode cL_law 158 = .ok (.iconst 4, 1) := by decide +kernel
theorem dL_law_159 : decode cL_law 159 = .ok (.iadd, 1) := by decide +kernel
theorem dL_law_160 : decode cL_law 160 = .ok (.iaload, 1) := by decide +kernel
theorem dL_law_161 : decode cL_law 161 = .ok (.aload_n 0, 1) := by decide +kernel
theorem dL_law_162 : decode cL_law 162 = .ok (.iload_n 3, 1) := by decide +kernel
theorem dL_law_163 : decode cL_law 163 = .ok (.iconst 5, 1) := by decide +kernel
theorem dL_law_164 : decode cL_law 164 = .ok (.iadd, 1) := by decide +kernel
theorem dL_law_165 : decode cL_law 165 = .ok (.iaload, 1) := by decide +kernel
theorem dL_law_166 : decode cL_law 166 = .ok (.invokevirtual 13, 3) := by decide +kernel
theorem dL_law_169 : decode cL_law 169 = .ok (.aload_n 2, 1) := by decide +kernel
theorem dL_law_170 : decode cL_law 170 = .ok (.aload_n 0, 1) := by decide +kernel
theorem dL_law_171 : decode cL_law 171 = .ok (.iload_n 3, 1) := by decide +kernel
theorem dL_law_172 : decode cL_law 172 = .ok (.iconst 1, 1) := by decide +kernel
theorem dL_law_173 : decode cL_law 173 = .ok (.iadd, 1) := by decide +kernel
theorem dL_law_174 : decode cL_law 174 = .ok (.iaload, 1) := by decide +kernel
theorem dL_law_175 : decode cL_law 175 = .ok (.aload_n 0, 1) := by decide +kernel
theorem dL_law_176 : decode cL_law 176 = .ok (.iload_n 3, 1) := by decide +kernel
theorem dL_law_177 : decode cL_law 177 = .ok (.iconst 2, 1) := by decide +kernel
theorem dL_law_178 : decode cL_law 178 = .ok (.iadd, 1) := by decide +kernel
theorem dL_law_179 : decode cL_law 179 = .ok (.iaload, 1) := by decide +kernel
theorem dL_law_180 : decode cL_law 180 = .ok (.aload_n 0, 1) := by decide +kernel
theorem dL_law_181 : decode cL_law 181 = .ok (.iload_n 3, 1) := by decide +kernel
theorem dL_law_182 : decode cL_law 182 = .ok (.iconst 3, 1) := by decide +kernel
theorem dL_law_183 : decode cL_law 183 = .ok (.iadd, 1) := by decide +kernel
theorem dL_law_184 : decode cL_law 184 = .ok (.iaload, 1) := by decide +kernel
theorem dL_law_185 : decode cL_law 185 = .ok (.aload_n 0, 1) := by decide +kernel
theorem dL_law_186 : decode cL_law 186 = .ok (.iload_n 3, 1) := by decide +kernel
theorem dL_law_187 : decode cL_law 187 = .ok (.iconst 4, 1) := by decide +kernel
theorem dL_law_188 : decode cL_law 188 = .ok (.iadd, 1) := by decide +kernel
theorem dL_law_189 : decode cL_law 189 = .ok (.iaload, 1) := by decide +kernel
theorem dL_law_190 : decode cL_law 190 = .ok (.aload_n 0, 1) := by decide +kernel
theorem dL_law_191 : decode cL_law 191 = .ok (.iload_n 3, 1) := by decide +kernel
theorem dL_law_192 : decode cL_law 192 = .ok (.iconst 5, 1) := by decide +kernel
theorem dL_law_193 : decode cL_law 193 = .ok (.iadd, 1) := by decide +kernel
theorem dL_law_194 : decode cL_law 194 = .ok (.iaload, 1) := by decide +kernel
theorem dL_law_195 : decode cL_law 195 = .ok (.invokevirtual 17, 3) := by decide +kernel
theorem dL_law_198 : decode cL_law 198 = .ok (.if_icmp .eq 619, 3) := by decide +kernel
theorem dL_law_201 : decode cL_law 201 = .ok (.iconst 0, 1) := by decide +kernel
theorem dL_law_202 : decode cL_law 202 = .ok (.ireturn, 1) := by decide +kernel
theorem dL_law_203 : decode cL_law 203 = .ok (.aload_n 1, 1) := by decide +kernel
theorem dL_law_204 : decode cL_law 204 = .ok (.aload_n 0, 1) := by decide +kernel
theorem dL_law_205 : decode cL_law 205 = .ok (.iload_n 3, 1) := by decide +kernel
theorem dL_law_206 : decode cL_law 206 = .ok (.iconst 1, 1) := by decide +kernel
theorem dL_law_207 : decode cL_law 207 = .ok (.iadd, 1) := by decide +kernel
theorem dL_law_208 : decode cL_law 208 = .ok (.iaload, 1) := by decide +kernel
theorem dL_law_209 : decode cL_law 209 = .ok (.invokevirtual 18, 3) := by decide +kernel
theorem dL_law_212 : decode cL_law 212 = .ok (.aload_n 2, 1) := by decide +kernel
theorem dL_law_213 : decode cL_law 213 = .ok (.aload_n 0, 1) := by decide +kernel
theorem dL_law_214 : decode cL_law 214 = .ok (.iload_n 3, 1) := by decide +kernel
theorem dL_law_215 : decode cL_law 215 = .ok (.iconst 1, 1) := by decide +kernel
theorem dL_law_216 : decode cL_law 216 = .ok (.iadd, 1) := by decide +kernel
theorem dL_law_217 : decode cL_law 217 = .ok (.iaload, 1) := by decide +kernel
theorem dL_law_218 : decode cL_law 218 = .ok (.invokevirtual 22, 3) := by decide +kernel
theorem dL_law_221 : decode cL_law 221 = .ok (.if_icmp .eq 596, 3) := by decide +kernel
theorem dL_law_224 : decode cL_law 224 = .ok (.iconst 0, 1) := by decide +kernel
theorem dL_law_225 : decode cL_law 225 = .ok (.ireturn, 1) := by decide +kernel
theorem dL_law_226 : decode cL_law 226 = .ok (.aload_n 1, 1) := by decide +kernel
theorem dL_law_227 : decode cL_law 227 = .ok (.invokevirtual 23, 3) := by decide +kernel
theorem dL_law_230 : decode cL_law 230 = .ok (.aload_n 2, 1) := by decide +kernel
theorem dL_law_231 : decode cL_law 231 = .ok (.invokevirtual 27, 3) := by decide +kernel
theorem dL_law_234 : decode cL_law 234 = .ok (.if_icmp .eq 583, 3) := by decide +kernel
theorem dL_law_237 : decode cL_law 237 = .ok (.iconst 0, 1) := by decide +kernel
theorem dL_law_238 : decode cL_law 238 = .ok (.ireturn, 1) := by decide +kernel
theorem dL_law_239 : decode cL_law 239 = .ok (.aload_n 1, 1) := by decide +kernel
theorem dL_law_240 : decode cL_law 240 = .ok (.invokevirtual 28, 3) := by decide +kernel
theorem dL_law_243 : decode cL_law 243 = .ok (.aload_n 2, 1) := by decide +kernel
theorem dL_law_244 : decode cL_law 244 = .ok (.invokevirtual 31, 3) := by decide +kernel
theorem dL_law_247 : decode cL_law 247 = .ok (.if_icmp .eq 570, 3) := by decide +kernel
theorem dL_law_250 : decode cL_law 250 = .ok (.iconst 0, 1) := by decide +kernel
theorem dL_law_251 : decode cL_law 251 = .ok (.ireturn, 1) := by decide +kernel
theorem dL_law_252 : decode cL_law 252 = .ok (.aload_n 1, 1) := by decide +kernel
theorem dL_law_253 : decode cL_law 253 = .ok (.aload_n 0, 1) := by decide +kernel
theorem dL_law_254 : decode cL_law 254 = .ok (.iload_n 3, 1) := by decide +kernel
theorem dL_law_255 : decode cL_law 255 = .ok (.iconst 1, 1) := by decide +kernel
theorem dL_law_256 : decode cL_law 256 = .ok (.iadd, 1) := by decide +kernel
theorem dL_law_257 : decode cL_law 257 = .ok (.iaload, 1) := by decide +kernel
theorem dL_law_258 : decode cL_law 258 = .ok (.aload_n 0, 1) := by decide +kernel
theorem dL_law_259 : decode cL_law 259 = .ok (.iload_n 3, 1) := by decide +kernel
theorem dL_law_260 : decode cL_law 260 = .ok (.iconst 2, 1) := by decide +kernel
theorem dL_law_261 : decode cL_law 261 = .ok (.iadd, 1) := by decide +kernel
theorem dL_law_262 : decode cL_law 262 = .ok (.iaload, 1) := by decide +kernel
theorem dL_law_263 : decode cL_law 263 = .ok (.aload_n 0, 1) := by decide +kernel
theorem dL_law_264 : decode cL_law 264 = .ok (.iload_n 3, 1) := by decide +kernel
theorem dL_law_265 : decode cL_law 265 = .ok (.iconst 3, 1) := by decide +kernel
theorem dL_law_266 : decode cL_law 266 = .ok (.iadd, 1) := by decide +kernel
theorem dL_law_267 : decode cL_law 267 = .ok (.iaload, 1) := by decide +kernel
theorem dL_law_268 : decode cL_law 268 = .ok (.invokevirtual 32, 3) := by decide +kernel
theorem dL_law_271 : decode cL_law 271 = .ok (.aload_n 2, 1) := by decide +kernel
theorem dL_law_272 : decode cL_law 272 = .ok (.aload_n 0, 1) := by decide +kernel
theorem dL_law_273 : decode cL_law 273 = .ok (.iload_n 3, 1) := by decide +kernel
theorem dL_law_274 : decode cL_law 274 = .ok (.iconst 1, 1) := by decide +kernel
theorem dL_law_275 : decode cL_law 275 = .ok (.iadd, 1) := by decide +kernel
theorem dL_law_276 : decode cL_law 276 = .ok (.iaload, 1) := by decide +kernel
theorem dL_law_277 : decode cL_law 277 = .ok (.aload_n 0, 1) := by decide +kernel
theorem dL_law_278 : decode cL_law 278 = .ok (.iload_n 3, 1) := by decide +kernel
theorem dL_law_279 : decode cL_law 279 = .ok (.iconst 2, 1) := by decide +kernel
theorem dL_law_280 : decode cL_law 280 = .ok (.iadd, 1) := by decide +kernel
theorem dL_law_281 : decode cL_law 281 = .ok (.iaload, 1) := by decide +kernel
theorem dL_law_282 : decode cL_law 282 = .ok (.aload_n 0, 1) := by decide +kernel
theorem dL_law_283 : decode cL_law 283 = .ok (.iload_n 3, 1) := by decide +kernel
theorem dL_law_284 : decode cL_law 284 = .ok (.iconst 3, 1) := by decide +kernel
theorem dL_law_285 : decode cL_law 285 = .ok (.iadd, 1) := by decide +kernel
theorem dL_law_286 : decode cL_law 286 = .ok (.iaload, 1) := by decide +kernel
theorem dL_law_287 : decode cL_law 287 = .ok (.invokevirtual 36, 3) := by decide +kernel
theorem dL_law_290 : decode cL_law 290 = .ok (.if_icmp .eq 527, 3) := by decide +kernel
theorem dL_law_293 : decode cL_law 293 = .ok (.iconst 0, 1) := by decide +kernel
theorem dL_law_294 : decode cL_law 294 = .ok (.ireturn, 1) := by decide +kernel
theorem dL_law_295 : decode cL_law 295 = .ok (.aload_n 1, 1) := by decide +kernel
theorem dL_law_296 : decode cL_law 296 = .ok (.aload_n 0, 1) := by decide +kernel
theorem dL_law_297 : decode cL_law 297 = .ok (.iload_n 3, 1) := by decide +kernel
theorem dL_law_298 : decode cL_law 298 = .ok (.iconst 1, 1) := by decide +kernel
theorem dL_law_299 : decode cL_law 299 = .ok (.iadd, 1) := by decide +kernel
theorem dL_law_300 : decode cL_law 300 = .ok (.iaload, 1) := by decide +kernel
theorem dL_law_301 : decode cL_law 301 = .ok (.aload_n 0, 1) := by decide +kernel
theorem dL_law_302 : decode cL_law 302 = .ok (.iload_n 3, 1) := by decide +kernel
theorem dL_law_303 : decode cL_law 303 = .ok (.iconst 2, 1) := by decide +kernel
theorem dL_law_304 : decode cL_law 304 = .ok (.iadd, 1) := by decide +kernel
theorem dL_law_305 : decode cL_law 305 = .ok (.iaload, 1) := by decide +kernel
theorem dL_law_306 : decode cL_law 306 = .ok (.aload_n 0, 1) := by decide +kernel
theorem dL_law_307 : decode cL_law 307 = .ok (.iload_n 3, 1) := by decide +kernel
theorem dL_law_308 : decode cL_law 308 = .ok (.iconst 3, 1) := by decide +kernel
theorem dL_law_309 : decode cL_law 309 = .ok (.iadd, 1) := by decide +kernel
theorem dL_law_310 : decode cL_law 310 = .ok (.iaload, 1) := by decide +kernel
theorem dL_law_311 : decode cL_law 311 = .ok (.invokevirtual 37, 3) := by decide +kernel
theorem dL_law_314 : decode cL_law 314 = .ok (.aload_n 2, 1) := by decide +kernel
theorem dL_law_315 : decode cL_law 315 = .ok (.aload_n 0, 1) := by decide +kernel
theorem dL_law_316 : decode cL_law 316 = .ok (.iload_n 3, 1) := by decide +kernel
theorem dL_law_317 : decode cL_law 317 = .ok (.iconst 1, 1) := by decide +kernel
theorem dL_law_318 : decode cL_law 318 = .ok (.iadd, 1) := by decide +kernel
theorem dL_law_319 : decode cL_law 319 = .ok (.iaload, 1) := by decide +kernel
theorem dL_law_320 : decode cL_law 320 = .ok (.aload_n 0, 1) := by decide +kernel
theorem dL_law_321 : decode cL_law 321 = .ok (.iload_n 3, 1) := by decide +kernel
theorem dL_law_322 : decode cL_law 322 = .ok (.iconst 2, 1) := by decide +kernel
theorem dL_law_323 : decode cL_law 323 = .ok (.iadd, 1) := by decide +kernel
theorem dL_law_324 : decode cL_law 324 = .ok (.iaload, 1) := by decide +kernel
theorem dL_law_325 : decode cL_law 325 = .ok (.aload_n 0, 1) := by decide +kernel
theorem dL_law_326 : decode cL_law 326 = .ok (.iload_n 3, 1) := by decide +kernel
theorem dL_law_327 : decode cL_law 327 = .ok (.iconst 3, 1) := by decide +kernel
theorem dL_law_328 : decode cL_law 328 = .ok (.iadd, 1) := by decide +kernel
theorem dL_law_329 : decode cL_law 329 = .ok (.iaload, 1) := by decide +kernel
theorem dL_law_330 : decode cL_law 330 = .ok (.invokevirtual 41, 3) := by decide +kernel
theorem dL_law_333 : decode cL_law 333 = .ok (.if_icmp .eq 484, 3) := by decide +kernel
theorem dL_law_336 : decode cL_law 336 = .ok (.iconst 0, 1) := by decide +kernel
theorem dL_law_337 : decode cL_law 337 = .ok (.ireturn, 1) := by decide +kernel
theorem dL_law_338 : decode cL_law 338 = .ok (.aload_n 1, 1) := by decide +kernel
theorem dL_law_339 : decode cL_law 339 = .ok (.aload_n 0, 1) := by decide +kernel
theorem dL_law_340 : decode cL_law 340 = .ok (.iload_n 3, 1) := by decide +kernel
theorem dL_law_341 : decode cL_law 341 = .ok (.iconst 1, 1) := by decide +kernel
theorem dL_law_342 : decode cL_law 342 = .ok (.iadd, 1) := by decide +kernel
theorem dL_law_343 : decode cL_law 343 = .ok (.iaload, 1) := by decide +kernel
theorem dL_law_344 : decode cL_law 344 = .ok (.invokevirtual 42, 3) := by decide +kernel
theorem dL_law_347 : decode cL_law 347 = .ok (.aload_n 2, 1) := by decide +kernel
theorem dL_law_348 : decode cL_law 348 = .ok (.aload_n 0, 1) := by decide +kernel
theorem dL_law_349 : decode cL_law 349 = .ok (.iload_n 3, 1) := by decide +kernel
theorem dL_law_350 : decode cL_law 350 = .ok (.iconst 1, 1) := by decide +kernel
theorem dL_law_351 : decode cL_law 351 = .ok (.iadd, 1) := by decide +kernel
theorem dL_law_352 : decode cL_law 352 = .ok (.iaload, 1) := by decide +kernel
theorem dL_law_353 : decode cL_law 353 = .ok (.invokevirtual 45, 3) := by decide +kernel
theorem dL_law_356 : decode cL_law 356 = .ok (.if_icmp .eq 461, 3) := by decide +kernel
theorem dL_law_359 : decode cL_law 359 = .ok (.iconst 0, 1) := by decide +kernel
theorem dL_law_360 : decode cL_law 360 = .ok (.ireturn, 1) := by decide +kernel
theorem dL_law_361 : decode cL_law 361 = .ok (.aload_n 1, 1) := by decide +kernel
theorem dL_law_362 : decode cL_law 362 = .ok (.aload_n 0, 1) := by decide +kernel
theorem dL_law_363 : decode cL_law 363 = .ok (.iload_n 3, 1) := by decide +kernel
theorem dL_law_364 : decode cL_law 364 = .ok (.iconst 1, 1) := by decide +kernel
theorem dL_law_365 : decode cL_law 365 = .ok (.iadd, 1) := by decide +kernel
theorem dL_law_366 : decode cL_law 366 = .ok (.iaload, 1) := by decide +kernel
theorem dL_law_367 : decode cL_law 367 = .ok (.invokevirtual 46, 3) := by decide +kernel
theorem dL_law_370 : decode cL_law 370 = .ok (.aload_n 2, 1) := by decide +kernel
theorem dL_law_371 : decode cL_law 371 = .ok (.aload_n 0, 1) := by decide +kernel
theorem dL_law_372 : decode cL_law 372 = .ok (.iload_n 3, 1) := by decide +kernel
theorem dL_law_373 : decode cL_law 373 = .ok (.iconst 1, 1) := by decide +kernel
theorem dL_law_374 : decode cL_law 374 = .ok (.iadd, 1) := by decide +kernel
theorem dL_law_375 : decode cL_law 375 = .ok (.iaload, 1) := by decide +kernel
theorem dL_law_376 : decode cL_law 376 = .ok (.invokevirtual 49, 3) := by decide +kernel
theorem dL_law_379 : decode cL_law 379 = .ok (.if_icmp .eq 438, 3) := by decide +kernel
theorem dL_law_382 : decode cL_law 382 = .ok (.iconst 0, 1) := by decide +kernel
theorem dL_law_383 : decode cL_law 383 = .ok (.ireturn, 1) := by decide +kernel
theorem dL_law_384 : decode cL_law 384 = .ok (.aload_n 1, 1) := by decide +kernel
theorem dL_law_385 : decode cL_law 385 = .ok (.aload_n 0, 1) := by decide +kernel
theorem dL_law_386 : decode cL_law 386 = .ok (.iload_n 3, 1) := by decide +kernel
theorem dL_law_387 : decode cL_law 387 = .ok (.iconst 1, 1) := by decide +kernel
theorem dL_law_388 : decode cL_law 388 = .ok (.iadd, 1) := by decide +kernel
theorem dL_law_389 : decode cL_law 389 = .ok (.iaload, 1) := by decide +kernel
theorem dL_law_390 : decode cL_law 390 = .ok (.aload_n 0, 1) := by decide +kernel
theorem dL_law_391 : decode cL_law 391 = .ok (.iload_n 3, 1) := by decide +kernel
theorem dL_law_392 : decode cL_law 392 = .ok (.iconst 2, 1) := by decide +kernel
theorem dL_law_393 : decode cL_law 393 = .ok (.iadd, 1) := by decide +kernel
theorem dL_law_394 : decode cL_law 394 = .ok (.iaload, 1) := by decide +kernel
theorem dL_law_395 : decode cL_law 395 = .ok (.invokevirtual 50, 3) := by decide +kernel
theorem dL_law_398 : decode cL_law 398 = .ok (.aload_n 2, 1) := by decide +kernel
theorem dL_law_399 : decode cL_law 399 = .ok (.aload_n 0, 1) := by decide +kernel
theorem dL_law_400 : decode cL_law 400 = .ok (.iload_n 3, 1) := by decide +kernel
theorem dL_law_401 : decode cL_law 401 = .ok (.iconst 1, 1) := by decide +kernel
theorem dL_law_402 : decode cL_law 402 = .ok (.iadd, 1) := by decide +kernel
theorem dL_law_403 : decode cL_law 403 = .ok (.iaload, 1) := by decide +kernel
theorem dL_law_404 : decode cL_law 404 = .ok (.aload_n 0, 1) := by decide +kernel
theorem dL_law_405 : decode cL_law 405 = .ok (.iload_n 3, 1) := by decide +kernel
theorem dL_law_406 : decode cL_law 406 = .ok (.iconst 2, 1) := by decide +kernel
theorem dL_law_407 : decode cL_law 407 = .ok (.iadd, 1) := by decide +kernel
theorem dL_law_408 : decode cL_law 408 = .ok (.iaload, 1) := by decide +kernel
theorem dL_law_409 : decode cL_law 409 = .ok (.invokevirtual 54, 3) := by decide +kernel
theorem dL_law_412 : decode cL_law 412 = .ok (.if_icmp .eq 405, 3) := by decide +kernel
theorem dL_law_415 : decode cL_law 415 = .ok (.iconst 0, 1) := by decide +kernel
theorem dL_law_416 : decode cL_law 416 = .ok (.ireturn, 1) := by decide +kernel
theorem dL_law_417 : decode cL_law 417 = .ok (.aload_n 1, 1) := by decide +kernel
theorem dL_law_418 : decode cL_law 418 = .ok (.aload_n 0, 1) := by decide +kernel
theorem dL_law_419 : decode cL_law 419 = .ok (.iload_n 3, 1) := by decide +kernel
theorem dL_law_420 : decode cL_law 420 = .ok (.iconst 1, 1) := by decide +kernel
theorem dL_law_421 : decode cL_law 421 = .ok (.iadd, 1) := by decide +kernel
theorem dL_law_422 : decode cL_law 422 = .ok (.iaload, 1) := by decide +kernel
theorem dL_law_423 : decode cL_law 423 = .ok (.aload_n 0, 1) := by decide +kernel
theorem dL_law_424 : decode cL_law 424 = .ok (.iload_n 3, 1) := by decide +kernel
theorem dL_law_425 : decode cL_law 425 = .ok (.iconst 2, 1) := by decide +kernel
theorem dL_law_426 : decode cL_law 426 = .ok (.iadd, 1) := by decide +kernel
theorem dL_law_427 : decode cL_law 427 = .ok (.iaload, 1) := by decide +kernel
theorem dL_law_428 : decode cL_law 428 = .ok (.ifCond .eq 7, 3) := by decide +kernel
theorem dL_law_431 : decode cL_law 431 = .ok (.iconst 1, 1) := by decide +kernel
theorem dL_law_432 : decode cL_law 432 = .ok (.goto 4, 3) := by decide +kernel
theorem dL_law_435 : decode cL_law 435 = .ok (.iconst 0, 1) := by decide +kernel
theorem dL_law_436 : decode cL_law 436 = .ok (.invokevirtual 55, 3) := by decide +kernel
theorem dL_law_439 : decode cL_law 439 = .ok (.aload_n 2, 1) := by decide +kernel
theorem dL_law_440 : decode cL_law 440 = .ok (.aload_n 0, 1) := by decide +kernel
theorem dL_law_441 : decode cL_law 441 = .ok (.iload_n 3, 1) := by decide +kernel
theorem dL_law_442 : decode cL_law 442 = .ok (.iconst 1, 1) := by decide +kernel
theorem dL_law_443 : decode cL_law 443 = .ok (.iadd, 1) := by decide +kernel
theorem dL_law_444 : decode cL_law 444 = .ok (.iaload, 1) := by decide +kernel
theorem dL_law_445 : decode cL_law 445 = .ok (.aload_n 0, 1) := by decide +kernel
theorem dL_law_446 : decode cL_law 446 = .ok (.iload_n 3, 1) := by decide +kernel
theorem dL_law_447 : decode cL_law 447 = .ok (.iconst 2, 1) := by decide +kernel
theorem dL_law_448 : decode cL_law 448 = .ok (.iadd, 1) := by decide +kernel
theorem dL_law_449 : decode cL_law 449 = .ok (.iaload, 1) := by decide +kernel
theorem dL_law_450 : decode cL_law 450 = .ok (.ifCond .eq 7, 3) := by decide +kernel
theorem dL_law_453 : decode cL_law 453 = .ok (.iconst 1, 1) := by decide +kernel
theorem dL_law_454 : decode cL_law 454 = .ok (.goto 4, 3) := by decide +kernel
theorem dL_law_457 : decode cL_law 457 = .ok (.iconst 0, 1) := by decide +kernel
theorem dL_law_458 : decode cL_law 458 = .ok (.invokevirtual 59, 3) := by decide +kernel
theorem dL_law_461 : decode cL_law 461 = .ok (.if_icmp .eq 356, 3) := by decide +kernel
theorem dL_law_464 : decode cL_law 464 = .ok (.iconst 0, 1) := by decide +kernel
theorem dL_law_465 : decode cL_law 465 = .ok (.ireturn, 1) := by decide +kernel
theorem dL_law_466 : decode cL_law 466 = .ok (.aload_n 1, 1) := by decide +kernel
theorem dL_law_467 : decode cL_law 467 = .ok (.aload_n 0, 1) := by decide +kernel
theorem dL_law_468 : decode cL_law 468 = .ok (.iload_n 3, 1) := by decide +kernel
theorem dL_law_469 : decode cL_law 469 = .ok (.iconst 1, 1) := by decide +kernel
theorem dL_law_470 : decode cL_law 470 = .ok (.iadd, 1) := by decide +kernel
theorem dL_law_471 : decode cL_law 471 = .ok (.iaload, 1) := by decide +kernel
theorem dL_law_472 : decode cL_law 472 = .ok (.aload_n 0, 1) := by decide +kernel
theorem dL_law_473 : decode cL_law 473 = .ok (.iload_n 3, 1) := by decide +kernel
theorem dL_law_474 : decode cL_law 474 = .ok (.iconst 2, 1) := by decide +kernel
theorem dL_law_475 : decode cL_law 475 = .ok (.iadd, 1) := by decide +kernel
theorem dL_law_476 : decode cL_law 476 = .ok (.iaload, 1) := by decide +kernel
theorem dL_law_477 : decode cL_law 477 = .ok (.invokevirtual 60, 3) := by decide +kernel
theorem dL_law_480 : decode cL_law 480 = .ok (.aload_n 2, 1) := by decide +kernel
theorem dL_law_481 : decode cL_law 481 = .ok (.aload_n 0, 1) := by decide +kernel
theorem dL_law_482 : decode cL_law 482 = .ok (.iload_n 3, 1) := by decide +kernel
theorem dL_law_483 : decode cL_law 483 = .ok (.iconst 1, 1) := by decide +kernel
theorem dL_law_484 : decode cL_law 484 = .ok (.iadd, 1) := by decide +kernel
theorem dL_law_485 : decode cL_law 485 = .ok (.iaload, 1) := by decide +kernel
theorem dL_law_486 : decode cL_law 486 = .ok (.aload_n 0, 1) := by decide +kernel
theorem dL_law_487 : decode cL_law 487 = .ok (.iload_n 3, 1) := by decide +kernel
theorem dL_law_488 : decode cL_law 488 = .ok (.iconst 2, 1) := by decide +kernel
theorem dL_law_489 : decode cL_law 489 = .ok (.iadd, 1) := by decide +kernel
theorem dL_law_490 : decode cL_law 490 = .ok (.iaload, 1) := by decide +kernel
theorem dL_law_491 : decode cL_law 491 = .ok (.invokevirtual 63, 3) := by decide +kernel
theorem dL_law_494 : decode cL_law 494 = .ok (.if_icmp .eq 323, 3) := by decide +kernel
theorem dL_law_497 : decode cL_law 497 = .ok (.iconst 0, 1) := by decide +kernel
theorem dL_law_498 : decode cL_law 498 = .ok (.ireturn, 1) := by decide +kernel
theorem dL_law_499 : decode cL_law 499 = .ok (.aload_n 1, 1) := by decide +kernel
theorem dL_law_500 : decode cL_law 500 = .ok (.aload_n 0, 1) := by decide +kernel
theorem dL_law_501 : decode cL_law 501 = .ok (.iload_n 3, 1) := by decide +kernel
theorem dL_law_502 : decode cL_law 502 = .ok (.iconst 1, 1) := by decide +kernel
theorem dL_law_503 : decode cL_law 503 = .ok (.iadd, 1) := by decide +kernel
theorem dL_law_504 : decode cL_law 504 = .ok (.iaload, 1) := by decide +kernel
theorem dL_law_505 : decode cL_law 505 = .ok (.invokevirtual 64, 3) := by decide +kernel
theorem dL_law_508 : decode cL_law 508 = .ok (.aload_n 2, 1) := by decide +kernel
theorem dL_law_509 : decode cL_law 509 = .ok (.aload_n 0, 1) := by decide +kernel
theorem dL_law_510 : decode cL_law 510 = .ok (.iload_n 3, 1) := by decide +kernel
theorem dL_law_511 : decode cL_law 511 = .ok (.iconst 1, 1) := by decide +kernel
theorem dL_law_512 : decode cL_law 512 = .ok (.iadd, 1) := by decide +kernel
theorem dL_law_513 : decode cL_law 513 = .ok (.iaload, 1) := by decide +kernel
theorem dL_law_514 : decode cL_law 514 = .ok (.invokevirtual 68, 3) := by decide +kernel
theorem dL_law_517 : decode cL_law 517 = .ok (.if_icmp .eq 300, 3) := by decide +kernel
theorem dL_law_520 : decode cL_law 520 = .ok (.iconst 0, 1) := by decide +kernel
theorem dL_law_521 : decode cL_law 521 = .ok (.ireturn, 1) := by decide +kernel
theorem dL_law_522 : decode cL_law 522 = .ok (.aload_n 1, 1) := by decide +kernel
theorem dL_law_523 : decode cL_law 523 = .ok (.invokevirtual 69, 3) := by decide +kernel
theorem dL_law_526 : decode cL_law 526 = .ok (.aload_n 2, 1) := by decide +kernel
theorem dL_law_527 : decode cL_law 527 = .ok (.invokevirtual 72, 3) := by decide +kernel
theorem dL_law_530 : decode cL_law 530 = .ok (.if_icmp .eq 287, 3) := by decide +kernel
theorem dL_law_533 : decode cL_law 533 = .ok (.iconst 0, 1) := by decide +kernel
theorem dL_law_534 : decode cL_law 534 = .ok (.ireturn, 1) := by decide +kernel
theorem dL_law_535 : decode cL_law 535 = .ok (.aload_n 1, 1) := by decide +kernel
theorem dL_law_536 : decode cL_law 536 = .ok (.invokevirtual 73, 3) := by decide +kernel
theorem dL_law_539 : decode cL_law 539 = .ok (.aload_n 2, 1) := by decide +kernel
theorem dL_law_540 : decode cL_law 540 = .ok (.invokevirtual 76, 3) := by decide +kernel
theorem dL_law_543 : decode cL_law 543 = .ok (.if_icmp .eq 274, 3) := by decide +kernel
theorem dL_law_546 : decode cL_law 546 = .ok (.iconst 0, 1) := by decide +kernel
theorem dL_law_547 : decode cL_law 547 = .ok (.ireturn, 1) := by decide +kernel
theorem dL_law_548 : decode cL_law 548 = .ok (.aload_n 1, 1) := by decide +kernel
theorem dL_law_549 : decode cL_law 549 = .ok (.aload_n 0, 1) := by decide +kernel
theorem dL_law_550 : decode cL_law 550 = .ok (.iload_n 3, 1) := by decide +kernel
theorem dL_law_551 : decode cL_law 551 = .ok (.iconst 1, 1) := by decide +kernel
theorem dL_law_552 : decode cL_law 552 = .ok (.iadd, 1) := by decide +kernel
theorem dL_law_553 : decode cL_law 553 = .ok (.iaload, 1) := by decide +kernel
theorem dL_law_554 : decode cL_law 554 = .ok (.invokevirtual 77, 3) := by decide +kernel
theorem dL_law_557 : decode cL_law 557 = .ok (.aload_n 2, 1) := by decide +kernel
theorem dL_law_558 : decode cL_law 558 = .ok (.aload_n 0, 1) := by decide +kernel
theorem dL_law_559 : decode cL_law 559 = .ok (.iload_n 3, 1) := by decide +kernel
theorem dL_law_560 : decode cL_law 560 = .ok (.iconst 1, 1) := by decide +kernel
theorem dL_law_561 : decode cL_law 561 = .ok (.iadd, 1) := by decide +kernel
theorem dL_law_562 : decode cL_law 562 = .ok (.iaload, 1) := by decide +kernel
theorem dL_law_563 : decode cL_law 563 = .ok (.invokevirtual 80, 3) := by decide +kernel
theorem dL_law_566 : decode cL_law 566 = .ok (.if_icmp .eq 251, 3) := by decide +kernel
theorem dL_law_569 : decode cL_law 569 = .ok (.iconst 0, 1) := by decide +kernel
theorem dL_law_570 : decode cL_law 570 = .ok (.ireturn, 1) := by decide +kernel
theorem dL_law_571 : decode cL_law 571 = .ok (.aload_n 1, 1) := by decide +kernel
theorem dL_law_572 : decode cL_law 572 = .ok (.aload_n 0, 1) := by decide +kernel
theorem dL_law_573 : decode cL_law 573 = .ok (.iload_n 3, 1) := by decide +kernel
theorem dL_law_574 : decode cL_law 574 = .ok (.iconst 1, 1) := by decide +kernel
theorem dL_law_575 : decode cL_law 575 = .ok (.iadd, 1) := by decide +kernel
theorem dL_law_576 : decode cL_law 576 = .ok (.iaload, 1) := by decide +kernel
theorem dL_law_577 : decode cL_law 577 = .ok (.invokevirtual 81, 3) := by decide +kernel
theorem dL_law_580 : decode cL_law 580 = .ok (.aload_n 2, 1) := by decide +kernel
theorem dL_law_581 : decode cL_law 581 = .ok (.aload_n 0, 1) := by decide +kernel
theorem dL_law_582 : decode cL_law 582 = .ok (.iload_n 3, 1) := by decide +kernel
theorem dL_law_583 : decode cL_law 583 = .ok (.iconst 1, 1) := by decide +kernel
theorem dL_law_584 : decode cL_law 584 = .ok (.iadd, 1) := by decide +kernel
theorem dL_law_585 : decode cL_law 585 = .ok (.iaload, 1) := by decide +kernel
theorem dL_law_586 : decode cL_law 586 = .ok (.invokevirtual 84, 3) := by decide +kernel
theorem dL_law_589 : decode cL_law 589 = .ok (.if_icmp .eq 228, 3) := by decide +kernel
theorem dL_law_592 : decode cL_law 592 = .ok (.iconst 0, 1) := by decide +kernel
theorem dL_law_593 : decode cL_law 593 = .ok (.ireturn, 1) := by decide +kernel
theorem dL_law_594 : decode cL_law 594 = .ok (.aload_n 1, 1) := by decide +kernel
theorem dL_law_595 : decode cL_law 595 = .ok (.aload_n 0, 1) := by decide +kernel
theorem dL_law_596 : decode cL_law 596 = .ok (.iload_n 3, 1) := by decide +kernel
theorem dL_law_597 : decode cL_law 597 = .ok (.iconst 1, 1) := by decide +kernel
theorem dL_law_598 : decode cL_law 598 = .ok (.iadd, 1) := by decide +kernel
theorem dL_law_599 : decode cL_law 599 = .ok (.iaload, 1) := by decide +kernel
theorem dL_law_600 : decode cL_law 600 = .ok (.invokevirtual 85, 3) := by decide +kernel
theorem dL_law_603 : decode cL_law 603 = .ok (.aload_n 2, 1) := by decide +kernel
theorem dL_law_604 : decode cL_law 604 = .ok (.aload_n 0, 1) := by decide +kernel
theorem dL_law_605 : decode cL_law 605 = .ok (.iload_n 3, 1) := by decide +kernel
theorem dL_law_606 : decode cL_law 606 = .ok (.iconst 1, 1) := by decide +kernel
theorem dL_law_607 : decode cL_law 607 = .ok (.iadd, 1) := by decide +kernel
theorem dL_law_608 : decode cL_law 608 = .ok (.iaload, 1) := by decide +kernel
theorem dL_law_609 : decode cL_law 609 = .ok (.invokevirtual 88, 3) := by decide +kernel
theorem dL_law_612 : decode cL_law 612 = .ok (.if_icmp .eq 205, 3) := by decide +kernel
theorem dL_law_615 : decode cL_law 615 = .ok (.iconst 0, 1) := by decide +kernel
theorem dL_law_616 : decode cL_law 616 = .ok (.ireturn, 1) := by decide +kernel
theorem dL_law_617 : decode cL_law 617 = .ok (.aload_n 1, 1) := by decide +kernel
theorem dL_law_618 : decode cL_law 618 = .ok (.aload_n 0, 1) := by decide +kernel
theorem dL_law_619 : decode cL_law 619 = .ok (.iload_n 3, 1) := by decide +kernel
theorem dL_law_620 : decode cL_law 620 = .ok (.iconst 1, 1) := by decide +kernel
theorem dL_law_621 : decode cL_law 621 = .ok (.iadd, 1) := by decide +kernel
theorem dL_law_622 : decode cL_law 622 = .ok (.iaload, 1) := by decide +kernel
theorem dL_law_623 : decode cL_law 623 = .ok (.aload_n 0, 1) := by decide +kernel
theorem dL_law_624 : decode cL_law 624 = .ok (.iload_n 3, 1) := by decide +kernel
theorem dL_law_625 : decode cL_law 625 = .ok (.iconst 2, 1) := by decide +kernel
theorem dL_law_626 : decode cL_law 626 = .ok (.iadd, 1) := by decide +kernel
theorem dL_law_627 : decode cL_law 627 = .ok (.iaload, 1) := by decide +kernel
theorem dL_law_628 : decode cL_law 628 = .ok (.invokevirtual 89, 3) := by decide +kernel
theorem dL_law_631 : decode cL_law 631 = .ok (.aload_n 2, 1) := by decide +kernel
theorem dL_law_632 : decode cL_law 632 = .ok (.aload_n 0, 1) := by decide +kernel
theorem dL_law_633 : decode cL_law 633 = .ok (.iload_n 3, 1) := by decide +kernel
theorem dL_law_634 : decode cL_law 634 = .ok (.iconst 1, 1) := by decide +kernel
theorem dL_law_635 : decode cL_law 635 = .ok (.iadd, 1) := by decide +kernel
theorem dL_law_636 : decode cL_law 636 = .ok (.iaload, 1) := by decide +kernel
theorem dL_law_637 : decode cL_law 637 = .ok (.aload_n 0, 1) := by decide +kernel
theorem dL_law_638 : decode cL_law 638 = .ok (.iload_n 3, 1) := by decide +kernel
theorem dL_law_639 : decode cL_law 639 = .ok (.iconst 2, 1) := by decide +kernel
theorem dL_law_640 : decode cL_law 640 = .ok (.iadd, 1) := by decide +kernel
theorem dL_law_641 : decode cL_law 641 = .ok (.iaload, 1) := by decide +kernel
theorem dL_law_642 : decode cL_law 642 = .ok (.invokevirtual 93, 3) := by decide +kernel
theorem dL_law_645 : decode cL_law 645 = .ok (.if_icmp .eq 172, 3) := by decide +kernel
theorem dL_law_648 : decode cL_law 648 = .ok (.iconst 0, 1) := by decide +kernel
theorem dL_law_649 : decode cL_law 649 = .ok (.ireturn, 1) := by decide +kernel
theorem dL_law_650 : decode cL_law 650 = .ok (.aload_n 1, 1) := by decide +kernel
theorem dL_law_651 : decode cL_law 651 = .ok (.aload_n 0, 1) := by decide +kernel
theorem dL_law_652 : decode cL_law 652 = .ok (.iload_n 3, 1) := by decide +kernel
theorem dL_law_653 : decode cL_law 653 = .ok (.iconst 1, 1) := by decide +kernel
theorem dL_law_654 : decode cL_law 654 = .ok (.iadd, 1) := by decide +kernel
theorem dL_law_655 : decode cL_law 655 = .ok (.iaload, 1) := by decide +kernel
theorem dL_law_656 : decode cL_law 656 = .ok (.aload_n 0, 1) := by decide +kernel
theorem dL_law_657 : decode cL_law 657 = .ok (.iload_n 3, 1) := by decide +kernel
theorem dL_law_658 : decode cL_law 658 = .ok (.iconst 2, 1) := by decide +kernel
theorem dL_law_659 : decode cL_law 659 = .ok (.iadd, 1) := by decide +kernel
theorem dL_law_660 : decode cL_law 660 = .ok (.iaload, 1) := by decide +kernel
theorem dL_law_661 : decode cL_law 661 = .ok (.invokevirtual 94, 3) := by decide +kernel
theorem dL_law_664 : decode cL_law 664 = .ok (.aload_n 2, 1) := by decide +kernel
theorem dL_law_665 : decode cL_law 665 = .ok (.aload_n 0, 1) := by decide +kernel
theorem dL_law_666 : decode cL_law 666 = .ok (.iload_n 3, 1) := by decide +kernel
theorem dL_law_667 : decode cL_law 667 = .ok (.iconst 1, 1) := by decide +kernel
theorem dL_law_668 : decode cL_law 668 = .ok (.iadd, 1) := by decide +kernel
theorem dL_law_669 : decode cL_law 669 = .ok (.iaload, 1) := by decide +kernel
theorem dL_law_670 : decode cL_law 670 = .ok (.aload_n 0, 1) := by decide +kernel
theorem dL_law_671 : decode cL_law 671 = .ok (.iload_n 3, 1) := by decide +kernel
theorem dL_law_672 : decode cL_law 672 = .ok (.iconst 2, 1) := by decide +kernel
theorem dL_law_673 : decode cL_law 673 = .ok (.iadd, 1) := by decide +kernel
theorem dL_law_674 : decode cL_law 674 = .ok (.iaload, 1) := by decide +kernel
theorem dL_law_675 : decode cL_law 675 = .ok (.invokevirtual 98, 3) := by decide +kernel
theorem dL_law_678 : decode cL_law 678 = .ok (.lcmp, 1) := by decide +kernel
theorem dL_law_679 : decode cL_law 679 = .ok (.ifCond .eq 138, 3) := by decide +kernel
theorem dL_law_682 : decode cL_law 682 = .ok (.iconst 0, 1) := by decide +kernel
theorem dL_law_683 : decode cL_law 683 = .ok (.ireturn, 1) := by decide +kernel
theorem dL_law_684 : decode cL_law 684 = .ok (.aload_n 1, 1) := by decide +kernel
theorem dL_law_685 : decode cL_law 685 = .ok (.aload_n 0, 1) := by decide +kernel
theorem dL_law_686 : decode cL_law 686 = .ok (.iload_n 3, 1) := by decide +kernel
theorem dL_law_687 : decode cL_law 687 = .ok (.iconst 1, 1) := by decide +kernel
theorem dL_law_688 : decode cL_law 688 = .ok (.iadd, 1) := by decide +kernel
theorem dL_law_689 : decode cL_law 689 = .ok (.iaload, 1) := by decide +kernel
theorem dL_law_690 : decode cL_law 690 = .ok (.aload_n 0, 1) := by decide +kernel
theorem dL_law_691 : decode cL_law 691 = .ok (.iload_n 3, 1) := by decide +kernel
theorem dL_law_692 : decode cL_law 692 = .ok (.iconst 2, 1) := by decide +kernel
theorem dL_law_693 : decode cL_law 693 = .ok (.iadd, 1) := by decide +kernel
theorem dL_law_694 : decode cL_law 694 = .ok (.iaload, 1) := by decide +kernel
theorem dL_law_695 : decode cL_law 695 = .ok (.aload_n 0, 1) := by decide +kernel
theorem dL_law_696 : decode cL_law 696 = .ok (.iload_n 3, 1) := by decide +kernel
theorem dL_law_697 : decode cL_law 697 = .ok (.iconst 3, 1) := by decide +kernel
theorem dL_law_698 : decode cL_law 698 = .ok (.iadd, 1) := by decide +kernel
theorem dL_law_699 : decode cL_law 699 = .ok (.iaload, 1) := by decide +kernel
theorem dL_law_700 : decode cL_law 700 = .ok (.invokevirtual 99, 3) := by decide +kernel
theorem dL_law_703 : decode cL_law 703 = .ok (.aload_n 2, 1) := by decide +kernel
theorem dL_law_704 : decode cL_law 704 = .ok (.aload_n 0, 1) := by decide +kernel
theorem dL_law_705 : decode cL_law 705 = .ok (.iload_n 3, 1) := by decide +kernel
theorem dL_law_706 : decode cL_law 706 = .ok (.iconst 1, 1) := by decide +kernel
theorem dL_law_707 : decode cL_law 707 = .ok (.iadd, 1) := by decide +kernel
theorem dL_law_708 : decode cL_law 708 = .ok (.iaload, 1) := by decide +kernel
theorem dL_law_709 : decode cL_law 709 = .ok (.aload_n 0, 1) := by decide +kernel
theorem dL_law_710 : decode cL_law 710 = .ok (.iload_n 3, 1) := by decide +kernel
theorem dL_law_711 : decode cL_law 711 = .ok (.iconst 2, 1) := by decide +kernel
theorem dL_law_712 : decode cL_law 712 = .ok (.iadd, 1) := by decide +kernel
theorem dL_law_713 : decode cL_law 713 = .ok (.iaload, 1) := by decide +kernel
theorem dL_law_714 : decode cL_law 714 = .ok (.aload_n 0, 1) := by decide +kernel
theorem dL_law_715 : decode cL_law 715 = .ok (.iload_n 3, 1) := by decide +kernel
theorem dL_law_716 : decode cL_law 716 = .ok (.iconst 3, 1) := by decide +kernel
theorem dL_law_717 : decode cL_law 717 = .ok (.iadd, 1) := by decide +kernel
theorem dL_law_718 : decode cL_law 718 = .ok (.iaload, 1) := by decide +kernel
theorem dL_law_719 : decode cL_law 719 = .ok (.invokevirtual 103, 3) := by decide +kernel
theorem dL_law_722 : decode cL_law 722 = .ok (.lcmp, 1) := by decide +kernel
theorem dL_law_723 : decode cL_law 723 = .ok (.ifCond .eq 94, 3) := by decide +kernel
theorem dL_law_726 : decode cL_law 726 = .ok (.iconst 0, 1) := by decide +kernel
theorem dL_law_727 : decode cL_law 727 = .ok (.ireturn, 1) := by decide +kernel
theorem dL_law_728 : decode cL_law 728 = .ok (.aload_n 1, 1) := by decide +kernel
theorem dL_law_729 : decode cL_law 729 = .ok (.aload_n 0, 1) := by decide +kernel
theorem dL_law_730 : decode cL_law 730 = .ok (.iload_n 3, 1) := by decide +kernel
theorem dL_law_731 : decode cL_law 731 = .ok (.iconst 1, 1) := by decide +kernel
theorem dL_law_732 : decode cL_law 732 = .ok (.iadd, 1) := by decide +kernel
theorem dL_law_733 : decode cL_law 733 = .ok (.iaload, 1) := by decide +kernel
theorem dL_law_734 : decode cL_law 734 = .ok (.aload_n 0, 1) := by decide +kernel
theorem dL_law_735 : decode cL_law 735 = .ok (.iload_n 3, 1) := by decide +kernel
theorem dL_law_736 : decode cL_law 736 = .ok (.iconst 2, 1) := by decide +kernel
theorem dL_law_737 : decode cL_law 737 = .ok (.iadd, 1) := by decide +kernel
theorem dL_law_738 : decode cL_law 738 = .ok (.iaload, 1) := by decide +kernel
theorem dL_law_739 : decode cL_law 739 = .ok (.invokevirtual 104, 3) := by decide +kernel
theorem dL_law_742 : decode cL_law 742 = .ok (.aload_n 2, 1) := by decide +kernel
theorem dL_law_743 : decode cL_law 743 = .ok (.aload_n 0, 1) := by decide +kernel
theorem dL_law_744 : decode cL_law 744 = .ok (.iload_n 3, 1) := by decide +kernel
theorem dL_law_745 : decode cL_law 745 = .ok (.iconst 1, 1) := by decide +kernel
theorem dL_law_746 : decode cL_law 746 = .ok (.iadd, 1) := by decide +kernel
theorem dL_law_747 : decode cL_law 747 = .ok (.iaload, 1) := by decide +kernel
theorem dL_law_748 : decode cL_law 748 = .ok (.aload_n 0, 1) := by decide +kernel
theorem dL_law_749 : decode cL_law 749 = .ok (.iload_n 3, 1) := by decide +kernel
theorem dL_law_750 : decode cL_law 750 = .ok (.iconst 2, 1) := by decide +kernel
theorem dL_law_751 : decode cL_law 751 = .ok (.iadd, 1) := by decide +kernel
theorem dL_law_752 : decode cL_law 752 = .ok (.iaload, 1) := by decide +kernel
theorem dL_law_753 : decode cL_law 753 = .ok (.invokevirtual 107, 3) := by decide +kernel
theorem dL_law_756 : decode cL_law 756 = .ok (.if_icmp .eq 61, 3) := by decide +kernel
theorem dL_law_759 : decode cL_law 759 = .ok (.iconst 0, 1) := by decide +kernel
theorem dL_law_760 : decode cL_law 760 = .ok (.ireturn, 1) := by decide +kernel
theorem dL_law_761 : decode cL_law 761 = .ok (.aload_n 1, 1) := by decide +kernel
theorem dL_law_762 : decode cL_law 762 = .ok (.aload_n 0, 1) := by decide +kernel
theorem dL_law_763 : decode cL_law 763 = .ok (.iload_n 3, 1) := by decide +kernel
theorem dL_law_764 : decode cL_law 764 = .ok (.iconst 1, 1) := by decide +kernel
theorem dL_law_765 : decode cL_law 765 = .ok (.iadd, 1) := by decide +kernel
theorem dL_law_766 : decode cL_law 766 = .ok (.iaload, 1) := by decide +kernel
theorem dL_law_767 : decode cL_law 767 = .ok (.aload_n 0, 1) := by decide +kernel
theorem dL_law_768 : decode cL_law 768 = .ok (.iload_n 3, 1) := by decide +kernel
theorem dL_law_769 : decode cL_law 769 = .ok (.iconst 2, 1) := by decide +kernel
theorem dL_law_770 : decode cL_law 770 = .ok (.iadd, 1) := by decide +kernel
theorem dL_law_771 : decode cL_law 771 = .ok (.iaload, 1) := by decide +kernel
theorem dL_law_772 : decode cL_law 772 = .ok (.invokevirtual 108, 3) := by decide +kernel
theorem dL_law_775 : decode cL_law 775 = .ok (.aload_n 2, 1) := by decide +kernel
theorem dL_law_776 : decode cL_law 776 = .ok (.aload_n 0, 1) := by decide +kernel
theorem dL_law_777 : decode cL_law 777 = .ok (.iload_n 3, 1) := by decide +kernel
theorem dL_law_778 : decode cL_law 778 = .ok (.iconst 1, 1) := by decide +kernel
theorem dL_law_779 : decode cL_law 779 = .ok (.iadd, 1) := by decide +kernel
theorem dL_law_780 : decode cL_law 780 = .ok (.iaload, 1) := by decide +kernel
theorem dL_law_781 : decode cL_law 781 = .ok (.aload_n 0, 1) := by decide +kernel
theorem dL_law_782 : decode cL_law 782 = .ok (.iload_n 3, 1) := by decide +kernel
theorem dL_law_783 : decode cL_law 783 = .ok (.iconst 2, 1) := by decide +kernel
theorem dL_law_784 : decode cL_law 784 = .ok (.iadd, 1) := by decide +kernel
theorem dL_law_785 : decode cL_law 785 = .ok (.iaload, 1) := by decide +kernel
theorem dL_law_786 : decode cL_law 786 = .ok (.invokevirtual 111, 3) := by decide +kernel
theorem dL_law_789 : decode cL_law 789 = .ok (.if_icmp .eq 28, 3) := by decide +kernel
theorem dL_law_792 : decode cL_law 792 = .ok (.iconst 0, 1) := by decide +kernel
theorem dL_law_793 : decode cL_law 793 = .ok (.ireturn, 1) := by decide +kernel
theorem dL_law_794 : decode cL_law 794 = .ok (.aload_n 1, 1) := by decide +kernel
theorem dL_law_795 : decode cL_law 795 = .ok (.aload_n 0, 1) := by decide +kernel
theorem dL_law_796 : decode cL_law 796 = .ok (.iload_n 3, 1) := by decide +kernel
theorem dL_law_797 : decode cL_law 797 = .ok (.iconst 1, 1) := by decide +kernel
theorem dL_law_798 : decode cL_law 798 = .ok (.iadd, 1) := by decide +kernel
theorem dL_law_799 : decode cL_law 799 = .ok (.iaload, 1) := by decide +kernel
theorem dL_law_800 : decode cL_law 800 = .ok (.invokevirtual 112, 3) := by decide +kernel
theorem dL_law_803 : decode cL_law 803 = .ok (.aload_n 2, 1) := by decide +kernel
theorem dL_law_804 : decode cL_law 804 = .ok (.aload_n 0, 1) := by decide +kernel
theorem dL_law_805 : decode cL_law 805 = .ok (.iload_n 3, 1) := by decide +kernel
theorem dL_law_806 : decode cL_law 806 = .ok (.iconst 1, 1) := by decide +kernel
theorem dL_law_807 : decode cL_law 807 = .ok (.iadd, 1) := by decide +kernel
theorem dL_law_808 : decode cL_law 808 = .ok (.iaload, 1) := by decide +kernel
theorem dL_law_809 : decode cL_law 809 = .ok (.invokevirtual 115, 3) := by decide +kernel
theorem dL_law_812 : decode cL_law 812 = .ok (.if_icmp .eq 5, 3) := by decide +kernel
theorem dL_law_815 : decode cL_law 815 = .ok (.iconst 0, 1) := by decide +kernel
theorem dL_law_816 : decode cL_law 816 = .ok (.ireturn, 1) := by decide +kernel
theorem dL_law_817 : decode cL_law 817 = .ok (.iinc 3 6, 3) := by decide +kernel
theorem dL_law_820 : decode cL_law 820 = .ok (.goto (-802), 3) := by decide +kernel
theorem dL_law_823 : decode cL_law 823 = .ok (.iconst 1, 1) := by decide +kernel
theorem dL_law_824 : decode cL_law 824 = .ok (.ireturn, 1) := by decide +kernel
