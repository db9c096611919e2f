theorem dX11_noon_86 : decode cX11_noon 86 = .ok (.if_icmp .ne 7, 3) := by decide +kernel
theorem dX11_noon_89 : decode cX11_noon 89 = .ok (.iconst 1, 1) := by decide +kernel
theorem dX11_noon_90 : decode cX11_noon 90 = .ok (.goto 4, 3) := by decide +kernel
theorem dX11_noon_93 : decode cX11_noon 93 = .ok (.iconst 0, 1) := by decide +kernel
theorem dX11_noon_94 : decode cX11_noon 94 = .ok (.istore 6, 2) := by decide +kernel
theorem dX11_noon_96 : decode cX11_noon 96 = .ok (.iload 4, 2) := by decide +kernel
theorem dX11_noon_98 : decode cX11_noon 98 = .ok (.aload_n 0, 1) := by decide +kernel
theorem dX11_noon_99 : decode cX11_noon 99 = .ok (.getfield 89, 3) := by decide +kernel
theorem dX11_noon_102 : decode cX11_noon 102 = .ok (.if_icmp .ne 17, 3) := by decide +kernel
theorem dX11_noon_105 : decode cX11_noon 105 = .ok (.aload_n 0, 1) := by decide +kernel
theorem dX11_noon_106 : decode cX11_noon 106 = .ok (.aload_n 0, 1) := by decide +kernel
theorem dX11_noon_107 : decode cX11_noon 107 = .ok (.getfield 320, 3) := by decide +kernel
theorem dX11_noon_110 : decode cX11_noon 110 = .ok (.aload_n 0, 1) := by decide +kernel
theorem dX11_noon_111 : decode cX11_noon 111 = .ok (.getfield 80, 3) := by decide +kernel
theorem dX11_noon_114 : decode cX11_noon 114 = .ok (.iconst 0, 1) := by decide +kernel
theorem dX11_noon_115 : decode cX11_noon 115 = .ok (.iconst 0, 1) := by decide +kernel
theorem dX11_noon_116 : decode cX11_noon 116 = .ok (.invokevirtual 323, 3) := by decide +kernel
theorem dX11_noon_119 : decode cX11_noon 119 = .ok (.aload_n 0, 1) := by decide +kernel
theorem dX11_noon_120 : decode cX11_noon 120 = .ok (.getfield 77, 3) := by decide +kernel
theorem dX11_noon_123 : decode cX11_noon 123 = .ok (.iload 5, 2) := by decide +kernel
theorem dX11_noon_125 : decode cX11_noon 125 = .ok (.iload_n 2, 1) := by decide +kernel
theorem dX11_noon_126 : decode cX11_noon 126 = .ok (.iastore, 1) := by decide +kernel
theorem dX11_noon_127 : decode cX11_noon 127 = .ok (.aload_n 0, 1) := by decide +kernel
theorem dX11_noon_128 : decode cX11_noon 128 = .ok (.aload_n 0, 1) := by decide +kernel
theorem dX11_noon_129 : decode cX11_noon 129 = .ok (.getfield 43, 3) := by decide +kernel
theorem dX11_noon_132 : decode cX11_noon 132 = .ok (.bipush 8, 2) := by decide +kernel
theorem dX11_noon_134 : decode cX11_noon 134 = .ok (.iload 5, 2) := by decide +kernel
theorem dX11_noon_136 : decode cX11_noon 136 = .ok (.imul, 1) := by decide +kernel
theorem dX11_noon_137 : decode cX11_noon 137 = .ok (.iconst 5, 1) := by decide +kernel
theorem dX11_noon_138 : decode cX11_noon 138 = .ok (.iadd, 1) := by decide +kernel
theorem dX11_noon_139 : decode cX11_noon 139 = .ok (.iaload, 1) := by decide +kernel
theorem dX11_noon_140 : decode cX11_noon 140 = .ok (.aload_n 0, 1) := by decide +kernel
theorem dX11_noon_141 : decode cX11_noon 141 = .ok (.getfield 74, 3) := by decide +kernel
theorem dX11_noon_144 : decode cX11_noon 144 = .ok (.bipush 6, 2) := by decide +kernel
theorem dX11_noon_146 : decode cX11_noon 146 = .ok (.iload 5, 2) := by decide +kernel
theorem dX11_noon_148 : decode cX11_noon 148 = .ok (.imul, 1) := by decide +kernel
theorem dX11_noon_149 : decode cX11_noon 149 = .ok (.iload 6, 2) := by decide +kernel
theorem dX11_noon_151 : decode cX11_noon 151 = .ok (.invokevirtual 323, 3) := by decide +kernel
theorem dX11_noon_154 : decode cX11_noon 154 = .ok (.aload_n 0, 1) := by decide +kernel
theorem dX11_noon_155 : decode cX11_noon 155 = .ok (.getfield 83, 3) := by decide +kernel
theorem dX11_noon_158 : decode cX11_noon 158 = .ok (.iload 5, 2) := by decide +kernel
theorem dX11_noon_160 : decode cX11_noon 160 = .ok (.bipush 9, 2) := by decide +kernel
theorem dX11_noon_162 : decode cX11_noon 162 = .ok (.iastore, 1) := by decide +kernel
theorem dX11_noon_163 : decode cX11_noon 163 = .ok (.iload 6, 2) := by decide +kernel
theorem dX11_noon_165 : decode cX11_noon 165 = .ok (.ifCond .eq 6, 3) := by decide +kernel
theorem dX11_noon_168 : decode cX11_noon 168 = .ok (.goto 162, 3) := by decide +kernel
theorem dX11_noon_171 : decode cX11_noon 171 = .ok (.aload_n 0, 1) := by decide +kernel
theorem dX11_noon_172 : decode cX11_noon 172 = .ok (.getfield 58, 3) := by decide +kernel
theorem dX11_noon_175 : decode cX11_noon 175 = .ok (.iload 5, 2) := by decide +kernel
theorem dX11_noon_177 : decode cX11_noon 177 = .ok (.iaload, 1) := by decide +kernel
theorem dX11_noon_178 : decode cX11_noon 178 = .ok (.bipush 9, 2) := by decide +kernel
theorem dX11_noon_180 : decode cX11_noon 180 = .ok (.if_icmp .eq 115, 3) := by decide +kernel
theorem dX11_noon_183 : decode cX11_noon 183 = .ok (.aload_n 0, 1) := by decide +kernel
theorem dX11_noon_184 : decode cX11_noon 184 = .ok (.getfield 43, 3) := by decide +kernel
theorem dX11_noon_187 : decode cX11_noon 187 = .ok (.bipush 8, 2) := by decide +kernel
theorem dX11_noon_189 : decode cX11_noon 189 = .ok (.iload 5, 2) := by decide +kernel
theorem dX11_noon_191 : decode cX11_noon 191 = .ok (.imul, 1) := by decide +kernel
theorem dX11_noon_192 : decode cX11_noon 192 = .ok (.aload_n 0, 1) := by decide +kernel
theorem dX11_noon_193 : decode cX11_noon 193 = .ok (.getfield 58, 3) := by decide +kernel
theorem dX11_noon_196 : decode cX11_noon 196 = .ok (.iload 5, 2) := by decide +kernel
theorem dX11_noon_198 : decode cX11_noon 198 = .ok (.iaload, 1) := by decide +kernel
theorem dX11_noon_199 : decode cX11_noon 199 = .ok (.iadd, 1) := by decide +kernel
theorem dX11_noon_200 : decode cX11_noon 200 = .ok (.iaload, 1) := by decide +kernel
theorem dX11_noon_201 : decode cX11_noon 201 = .ok (.aload_n 0, 1) := by decide +kernel
theorem dX11_noon_202 : decode cX11_noon 202 = .ok (.getfield 49, 3) := by decide +kernel
theorem dX11_noon_205 : decode cX11_noon 205 = .ok (.iconst 0, 1) := by decide +kernel
theorem dX11_noon_206 : decode cX11_noon 206 = .ok (.iaload, 1) := by decide +kernel
theorem dX11_noon_207 : decode cX11_noon 207 = .ok (.if_icmp .lt 88, 3) := by decide +kernel
theorem dX11_noon_210 : decode cX11_noon 210 = .ok (.aload_n 0, 1) := by decide +kernel
theorem dX11_noon_211 : decode cX11_noon 211 = .ok (.getfield 83, 3) := by decide +kernel
theorem dX11_noon_214 : decode cX11_noon 214 = .ok (.iload 5, 2) := by decide +kernel
theorem dX11_noon_216 : decode cX11_noon 216 = .ok (.aload_n 0, 1) := by decide +kernel
theorem dX11_noon_217 : decode cX11_noon 217 = .ok (.getfield 58, 3) := by decide +kernel
theorem dX11_noon_220 : decode cX11_noon 220 = .ok (.iload 5, 2) := by decide +kernel
theorem dX11_noon_222 : decode cX11_noon 222 = .ok (.iaload, 1) := by decide +kernel
theorem dX11_noon_223 : decode cX11_noon 223 = .ok (.iastore, 1) := by decide +kernel
theorem dX11_noon_224 : decode cX11_noon 224 = .ok (.aload_n 0, 1) := by decide +kernel
theorem dX11_noon_225 : decode cX11_noon 225 = .ok (.getfield 71, 3) := by decide +kernel
theorem dX11_noon_228 : decode cX11_noon 228 = .ok (.aload_n 0, 1) := by decide +kernel
theorem dX11_noon_229 : decode cX11_noon 229 = .ok (.getfield 58, 3) := by decide +kernel
theorem dX11_noon_232 : decode cX11_noon 232 = .ok (.iload 5, 2) := by decide +kernel
theorem dX11_noon_234 : decode cX11_noon 234 = .ok (.iaload, 1) := by decide +kernel
theorem dX11_noon_235 : decode cX11_noon 235 = .ok (.dup2, 1) := by decide +kernel
theorem dX11_noon_236 : decode cX11_noon 236 = .ok (.iaload, 1) := by decide +kernel
theorem dX11_noon_237 : decode cX11_noon 237 = .ok (.aload_n 0, 1) := by decide +kernel
theorem dX11_noon_238 : decode cX11_noon 238 = .ok (.getfield 49, 3) := by decide +kernel
theorem dX11_noon_241 : decode cX11_noon 241 = .ok (.iconst 0, 1) := by decide +kernel
theorem dX11_noon_242 : decode cX11_noon 242 = .ok (.iaload, 1) := by decide +kernel
theorem dX11_noon_243 : decode cX11_noon 243 = .ok (.iadd, 1) := by decide +kernel
theorem dX11_noon_244 : decode cX11_noon 244 = .ok (.iastore, 1) := by decide +kernel
theorem dX11_noon_245 : decode cX11_noon 245 = .ok (.aload_n 0, 1) := by decide +kernel
theorem dX11_noon_246 : decode cX11_noon 246 = .ok (.getfield 317, 3) := by decide +kernel
theorem dX11_noon_249 : decode cX11_noon 249 = .ok (.iconst (-1), 1) := by decide +kernel
theorem dX11_noon_250 : decode cX11_noon 250 = .ok (.if_icmp .ne 33, 3) := by decide +kernel
theorem dX11_noon_253 : decode cX11_noon 253 = .ok (.aload_n 0, 1) := by decide +kernel
theorem dX11_noon_254 : decode cX11_noon 254 = .ok (.getfield 49, 3) := by decide +kernel
theorem dX11_noon_257 : decode cX11_noon 257 = .ok (.iconst 1, 1) := by decide +kernel
theorem dX11_noon_258 : decode cX11_noon 258 = .ok (.iaload, 1) := by decide +kernel
theorem dX11_noon_259 : decode cX11_noon 259 = .ok (.iconst 1, 1) := by decide +kernel
theorem dX11_noon_260 : decode cX11_noon 260 = .ok (.if_icmp .ne 23, 3) := by decide +kernel
theorem dX11_noon_263 : decode cX11_noon 263 = .ok (.iload_n 3, 1) := by decide +kernel
theorem dX11_noon_264 : decode cX11_noon 264 = .ok (.aload_n 0, 1) := by decide +kernel
theorem dX11_noon_265 : decode cX11_noon 265 = .ok (.getfield 58, 3) := by decide +kernel
theorem dX11_noon_268 : decode cX11_noon 268 = .ok (.iload 5, 2) := by decide +kernel
theorem dX11_noon_270 : decode cX11_noon 270 = .ok (.iaload, 1) := by decide +kernel
theorem dX11_noon_271 : decode cX11_noon 271 = .ok (.invokestatic 263, 3) := by decide +kernel
theorem dX11_noon_274 : decode cX11_noon 274 = .ok (.ifCond .eq 9, 3) := by decide +kernel
theorem dX11_noon_277 : decode cX11_noon 277 = .ok (.aload_n 0, 1) := by decide +kernel
theorem dX11_noon_278 : decode cX11_noon 278 = .ok (.iload 5, 2) := by decide +kernel
theorem dX11_noon_280 : decode cX11_noon 280 = .ok (.putfield 317, 3) := by decide +kernel
theorem dX11_noon_283 : decode cX11_noon 283 = .ok (.iload_n 3, 1) := by decide +kernel
theorem dX11_noon_284 : decode cX11_noon 284 = .ok (.iconst 1, 1) := by decide +kernel
theorem dX11_noon_285 : decode cX11_noon 285 = .ok (.aload_n 0, 1) := by decide +kernel
theorem dX11_noon_286 : decode cX11_noon 286 = .ok (.getfield 58, 3) := by decide +kernel
theorem dX11_noon_289 : decode cX11_noon 289 = .ok (.iload 5, 2) := by decide +kernel
theorem dX11_noon_291 : decode cX11_noon 291 = .ok (.iaload, 1) := by decide +kernel
theorem dX11_noon_292 : decode cX11_noon 292 = .ok (.ishl, 1) := by decide +kernel
theorem dX11_noon_293 : decode cX11_noon 293 = .ok (.ior, 1) := by decide +kernel
theorem dX11_noon_294 : decode cX11_noon 294 = .ok (.istore_n 3, 1) := by decide +kernel
theorem dX11_noon_295 : decode cX11_noon 295 = .ok (.iload 5, 2) := by decide +kernel
theorem dX11_noon_297 : decode cX11_noon 297 = .ok (.aload_n 0, 1) := by decide +kernel
theorem dX11_noon_298 : decode cX11_noon 298 = .ok (.getfield 86, 3) := by decide +kernel
theorem dX11_noon_301 : decode cX11_noon 301 = .ok (.if_icmp .ne 16, 3) := by decide +kernel
theorem dX11_noon_304 : decode cX11_noon 304 = .ok (.aload_n 0, 1) := by decide +kernel
theorem dX11_noon_305 : decode cX11_noon 305 = .ok (.getfield 71, 3) := by decide +kernel
theorem dX11_noon_308 : decode cX11_noon 308 = .ok (.iconst 5, 1) := by decide +kernel
theorem dX11_noon_309 : decode cX11_noon 309 = .ok (.dup2, 1) := by decide +kernel
theorem dX11_noon_310 : decode cX11_noon 310 = .ok (.iaload, 1) := by decide +kernel
theorem dX11_noon_311 : decode cX11_noon 311 = .ok (.aload_n 0, 1) := by decide +kernel
theorem dX11_noon_312 : decode cX11_noon 312 = .ok (.getfield 327, 3) := by decide +kernel
theorem dX11_noon_315 : decode cX11_noon 315 = .ok (.iadd, 1) := by decide +kernel
theorem dX11_noon_316 : decode cX11_noon 316 = .ok (.iastore, 1) := by decide +kernel
theorem dX11_noon_317 : decode cX11_noon 317 = .ok (.iconst 0, 1) := by decide +kernel
theorem dX11_noon_318 : decode cX11_noon 318 = .ok (.iload_n 2, 1) := by decide +kernel
theorem dX11_noon_319 : decode cX11_noon 319 = .ok (.aload_n 0, 1) := by decide +kernel
theorem dX11_noon_320 : decode cX11_noon 320 = .ok (.getfield 49, 3) := by decide +kernel
theorem dX11_noon_323 : decode cX11_noon 323 = .ok (.iconst 2, 1) := by decide +kernel
theorem dX11_noon_324 : decode cX11_noon 324 = .ok (.iaload, 1) := by decide +kernel
theorem dX11_noon_325 : decode cX11_noon 325 = .ok (.isub, 1) := by decide +kernel
theorem dX11_noon_326 : decode cX11_noon 326 = .ok (.invokestatic 330, 3) := by decide +kernel
theorem dX11_noon_329 : decode cX11_noon 329 = .ok (.istore_n 2, 1) := by decide +kernel
theorem dX11_noon_330 : decode cX11_noon 330 = .ok (.iinc 4 1, 3) := by decide +kernel
theorem dX11_noon_333 : decode cX11_noon 333 = .ok (.goto (-273), 3) := by decide +kernel
theorem dX11_noon_336 : decode cX11_noon 336 = .ok (.return_, 1) := by decide +kernel
theorem dX11_mealOf_0 : decode cX11_mealOf 0 = .ok (.bipush 6, 2) := by decide +kernel
theorem dX11_mealOf_2 : decode cX11_mealOf 2 = .ok (.iload_n 1, 1) := by decide +kernel
theorem dX11_mealOf_3 : decode cX11_mealOf 3 = .ok (.imul, 1) := by decide +kernel
theorem dX11_mealOf_4 : decode cX11_mealOf 4 = .ok (.istore_n 3, 1) := by decide +kernel
theorem dX11_mealOf_5 : decode cX11_mealOf 5 = .ok (.iconst 0, 1) := by decide +kernel
theorem dX11_mealOf_6 : decode cX11_mealOf 6 = .ok (.istore 4, 2) := by decide +kernel
theorem dX11_mealOf_8 : decode cX11_mealOf 8 = .ok (.iconst 0, 1) := by decide +kernel
theorem dX11_mealOf_9 : decode cX11_mealOf 9 = .ok (.istore 5, 2) := by decide +kernel
theorem dX11_mealOf_11 : decode cX11_mealOf 11 = .ok (.iload 5, 2) := by decide +kernel
theorem dX11_mealOf_13 : decode cX11_mealOf 13 = .ok (.iconst 5, 1) := by decide +kernel
theorem dX11_mealOf_14 : decode cX11_mealOf 14 = .ok (.if_icmp .ge 23, 3) := by decide +kernel
theorem dX11_mealOf_17 : decode cX11_mealOf 17 = .ok (.iload 4, 2) := by decide +kernel
theorem dX11_mealOf_19 : decode cX11_mealOf 19 = .ok (.aload_n 0, 1) := by decide +kernel
theorem dX11_mealOf_20 : decode cX11_mealOf 20 = .ok (.getfield 74, 3) := by decide +kernel
theorem dX11_mealOf_23 : decode cX11_mealOf 23 = .ok (.iload_n 3, 1) := by decide +kernel
theorem dX11_mealOf_24 : decode cX11_mealOf 24 = .ok (.iload 5, 2) := by decide +kernel
theorem dX11_mealOf_26 : decode cX11_mealOf 26 = .ok (.iadd, 1) := by decide +kernel
theorem dX11_mealOf_27 : decode cX11_mealOf 27 = .ok (.iaload, 1) := by decide +kernel
theorem dX11_mealOf_28 : decode cX11_mealOf 28 = .ok (.iadd, 1) := by decide +kernel
theorem dX11_mealOf_29 : decode cX11_mealOf 29 = .ok (.istore 4, 2) := by decide +kernel
theorem dX11_mealOf_31 : decode cX11_mealOf 31 = .ok (.iinc 5 1, 3) := by decide +kernel
theorem dX11_mealOf_34 : decode cX11_mealOf 34 = .ok (.goto (-23), 3) := by decide +kernel
theorem dX11_mealOf_37 : decode cX11_mealOf 37 = .ok (.aload_n 0, 1) := by decide +kernel
theorem dX11_mealOf_38 : decode cX11_mealOf 38 = .ok (.getfield 74, 3) := by decide +kernel
theorem dX11_mealOf_41 : decode cX11_mealOf 41 = .ok (.iload_n 3, 1) := by decide +kernel
theorem dX11_mealOf_42 : decode cX11_mealOf 42 = .ok (.aload_n 0, 1) := by decide +kernel
theorem dX11_mealOf_43 : decode cX11_mealOf 43 = .ok (.getfield 43, 3) := by decide +kernel
theorem dX11_mealOf_46 : decode cX11_mealOf 46 = .ok (.bipush 8, 2) := by decide +kernel
theorem dX11_mealOf_48 : decode cX11_mealOf 48 = .ok (.iload_n 1, 1) := by decide +kernel
theorem dX11_mealOf_49 : decode cX11_mealOf 49 = .ok (.imul, 1) := by decide +kernel
theorem dX11_mealOf_50 : decode cX11_mealOf 50 = .ok (.bipush 6, 2) := by decide +kernel
theorem dX11_mealOf_52 : decode cX11_mealOf 52 = .ok (.iadd, 1) := by decide +kernel
theorem dX11_mealOf_53 : decode cX11_mealOf 53 = .ok (.iaload, 1) := by decide +kernel
theorem dX11_mealOf_54 : decode cX11_mealOf 54 = .ok (.iadd, 1) := by decide +kernel
theorem dX11_mealOf_55 : decode cX11_mealOf 55 = .ok (.iaload, 1) := by decide +kernel
theorem dX11_mealOf_56 : decode cX11_mealOf 56 = .ok (.istore 5, 2) := by decide +kernel
theorem dX11_mealOf_58 : decode cX11_mealOf 58 = .ok (.aload_n 0, 1) := by decide +kernel
theorem dX11_mealOf_59 : decode cX11_mealOf 59 = .ok (.getfield 43, 3) := by decide +kernel
theorem dX11_mealOf_62 : decode cX11_mealOf 62 = .ok (.bipush 8, 2) := by decide +kernel
theorem dX11_mealOf_64 : decode cX11_mealOf 64 = .ok (.iload_n 1, 1) := by decide +kernel
theorem dX11_mealOf_65 : decode cX11_mealOf 65 = .ok (.imul, 1) := by decide +kernel
theorem dX11_mealOf_66 : decode cX11_mealOf 66 = .ok (.bipush 7, 2) := by decide +kernel
theorem dX11_mealOf_68 : decode cX11_mealOf 68 = .ok (.iadd, 1) := by decide +kernel
theorem dX11_mealOf_69 : decode cX11_mealOf 69 = .ok (.iaload, 1) := by decide +kernel
theorem dX11_mealOf_70 : decode cX11_mealOf 70 = .ok (.iconst 5, 1) := by decide +kernel
theorem dX11_mealOf_71 : decode cX11_mealOf 71 = .ok (.if_icmp .ne 7, 3) := by decide +kernel
theorem dX11_mealOf_74 : decode cX11_mealOf 74 = .ok (.iconst 0, 1) := by decide +kernel
theorem dX11_mealOf_75 : decode cX11_mealOf 75 = .ok (.goto 22, 3) := by decide +kernel
theorem dX11_mealOf_78 : decode cX11_mealOf 78 = .ok (.aload_n 0, 1) := by decide +kernel
theorem dX11_mealOf_79 : decode cX11_mealOf 79 = .ok (.getfield 74, 3) := by decide +kernel
theorem dX11_mealOf_82 : decode cX11_mealOf 82 = .ok (.iload_n 3, 1) := by decide +kernel
theorem dX11_mealOf_83 : decode cX11_mealOf 83 = .ok (.aload_n 0, 1) := by decide +kernel
theorem dX11_mealOf_84 : decode cX11_mealOf 84 = .ok (.getfield 43, 3) := by decide +kernel
theorem dX11_mealOf_87 : decode cX11_mealOf 87 = .ok (.bipush 8, 2) := by decide +kernel
theorem dX11_mealOf_89 : decode cX11_mealOf 89 = .ok (.iload_n 1, 1) := by decide +kernel
theorem dX11_mealOf_90 : decode cX11_mealOf 90 = .ok (.imul, 1) := by decide +kernel
theorem dX11_mealOf_91 : decode cX11_mealOf 91 = .ok (.bipush 7, 2) := by decide +kernel
theorem dX11_mealOf_93 : decode cX11_mealOf 93 = .ok (.iadd, 1) := by decide +kernel
theorem dX11_mealOf_94 : decode cX11_mealOf 94 = .ok (.iaload, 1) := by decide +kernel
theorem dX11_mealOf_95 : decode cX11_mealOf 95 = .ok (.iadd, 1) := by decide +kernel
theorem dX11_mealOf_96 : decode cX11_mealOf 96 = .ok (.iaload, 1) := by decide +kernel
theorem dX11_mealOf_97 : decode cX11_mealOf 97 = .ok (.istore 6, 2) := by decide +kernel
theorem dX11_mealOf_99 : decode cX11_mealOf 99 = .ok (.aload_n 0, 1) := by decide +kernel
theorem dX11_mealOf_100 : decode cX11_mealOf 100 = .ok (.getfield 64, 3) := by decide +kernel
theorem dX11_mealOf_103 : decode cX11_mealOf 103 = .ok (.iconst (-1), 1) := by decide +kernel
theorem dX11_mealOf_104 : decode cX11_mealOf 104 = .ok (.if_icmp .ne 14, 3) := by decide +kernel
theorem dX11_mealOf_107 : decode cX11_mealOf 107 = .ok (.iload 4, 2) := by decide +kernel
theorem dX11_mealOf_109 : decode cX11_mealOf 109 = .ok (.iload 5, 2) := by decide +kernel
theorem dX11_mealOf_111 : decode cX11_mealOf 111 = .ok (.iadd, 1) := by decide +kernel
theorem dX11_mealOf_112 : decode cX11_mealOf 112 = .ok (.iconst 3, 1) := by decide +kernel
theorem dX11_mealOf_113 : decode cX11_mealOf 113 = .ok (.iload 6, 2) := by decide +kernel
theorem dX11_mealOf_115 : decode cX11_mealOf 115 = .ok (.imul, 1) := by decide +kernel
theorem dX11_mealOf_116 : decode cX11_mealOf 116 = .ok (.isub, 1) := by decide +kernel
theorem dX11_mealOf_117 : decode cX11_mealOf 117 = .ok (.ireturn, 1) := by decide +kernel
theorem dX11_mealOf_118 : decode cX11_mealOf 118 = .ok (.aload_n 0, 1) := by decide +kernel
theorem dX11_mealOf_119 : decode cX11_mealOf 119 = .ok (.getfield 20, 3) := by decide +kernel
theorem dX11_mealOf_122 : decode cX11_mealOf 122 = .ok (.bipush 108, 2) := by decide +kernel
theorem dX11_mealOf_124 : decode cX11_mealOf 124 = .ok (.iload 5, 2) := by decide +kernel
theorem dX11_mealOf_126 : decode cX11_mealOf 126 = .ok (.iastore, 1) := by decide +kernel
theorem dX11_mealOf_127 : decode cX11_mealOf 127 = .ok (.aload_n 0, 1) := by decide +kernel
theorem dX11_mealOf_128 : decode cX11_mealOf 128 = .ok (.getfield 20, 3) := by decide +kernel
theorem dX11_mealOf_131 : decode cX11_mealOf 131 = .ok (.bipush 110, 2) := by decide +kernel
theorem dX11_mealOf_133 : decode cX11_mealOf 133 = .ok (.iload 6, 2) := by decide +kernel
theorem dX11_mealOf_135 : decode cX11_mealOf 135 = .ok (.iastore, 1) := by decide +kernel
theorem dX11_mealOf_136 : decode cX11_mealOf 136 = .ok (.aload_n 0, 1) := by decide +kernel
theorem dX11_mealOf_137 : decode cX11_mealOf 137 = .ok (.getfield 20, 3) := by decide +kernel
theorem dX11_mealOf_140 : decode cX11_mealOf 140 = .ok (.bipush 115, 2) := by decide +kernel
theorem dX11_mealOf_142 : decode cX11_mealOf 142 = .ok (.iload 4, 2) := by decide +kernel
theorem dX11_mealOf_144 : decode cX11_mealOf 144 = .ok (.iastore, 1) := by decide +kernel
theorem dX11_mealOf_145 : decode cX11_mealOf 145 = .ok (.aload_n 0, 1) := by decide +kernel
theorem dX11_mealOf_146 : decode cX11_mealOf 146 = .ok (.getfield 20, 3) := by decide +kernel
theorem dX11_mealOf_149 : decode cX11_mealOf 149 = .ok (.bipush 104, 2) := by decide +kernel
theorem dX11_mealOf_151 : decode cX11_mealOf 151 = .ok (.aload_n 0, 1) := by decide +kernel
theorem dX11_mealOf_152 : decode cX11_mealOf 152 = .ok (.getfield 77, 3) := by decide +kernel
theorem dX11_mealOf_155 : decode cX11_mealOf 155 = .ok (.iload_n 1, 1) := by decide +kernel
theorem dX11_mealOf_156 : decode cX11_mealOf 156 = .ok (.iaload, 1) := by decide +kernel
theorem dX11_mealOf_157 : decode cX11_mealOf 157 = .ok (.iastore, 1) := by decide +kernel
theorem dX11_mealOf_158 : decode cX11_mealOf 158 = .ok (.aload_n 0, 1) := by decide +kernel
theorem dX11_mealOf_159 : decode cX11_mealOf 159 = .ok (.getfield 20, 3) := by decide +kernel
theorem dX11_mealOf_162 : decode cX11_mealOf 162 = .ok (.bipush 105, 2) := by decide +kernel
theorem dX11_mealOf_164 : decode cX11_mealOf 164 = .ok (.aload_n 0, 1) := by decide +kernel
theorem dX11_mealOf_165 : decode cX11_mealOf 165 = .ok (.iload_n 1, 1) := by decide +kernel
theorem dX11_mealOf_166 : decode cX11_mealOf 166 = .ok (.invokevirtual 306, 3) := by decide +kernel
theorem dX11_mealOf_169 : decode cX11_mealOf 169 = .ok (.iastore, 1) := by decide +kernel
theorem dX11_mealOf_170 : decode cX11_mealOf 170 = .ok (.aload_n 0, 1) := by decide +kernel
theorem dX11_mealOf_171 : decode cX11_mealOf 171 = .ok (.getfield 20, 3) := by decide +kernel
theorem dX11_mealOf_174 : decode cX11_mealOf 174 = .ok (.bipush 116, 2) := by decide +kernel
theorem dX11_mealOf_176 : decode cX11_mealOf 176 = .ok (.iload_n 2, 1) := by decide +kernel
theorem dX11_mealOf_177 : decode cX11_mealOf 177 = .ok (.iastore, 1) := by decide +kernel
theorem dX11_mealOf_178 : decode cX11_mealOf 178 = .ok (.aload_n 0, 1) := by decide +kernel
theorem dX11_mealOf_179 : decode cX11_mealOf 179 = .ok (.aload_n 0, 1) := by decide +kernel
theorem dX11_mealOf_180 : decode cX11_mealOf 180 = .ok (.getfield 13, 3) := by decide +kernel
theorem dX11_mealOf_183 : decode cX11_mealOf 183 = .ok (.sipush 160, 3) := by decide +kernel
theorem dX11_mealOf_186 : decode cX11_mealOf 186 = .ok (.aload_n 0, 1) := by decide +kernel
theorem dX11_mealOf_187 : decode cX11_mealOf 187 = .ok (.getfield 64, 3) := by decide +kernel
theorem dX11_mealOf_190 : decode cX11_mealOf 190 = .ok (.imul, 1) := by decide +kernel
theorem dX11_mealOf_191 : decode cX11_mealOf 191 = .ok (.aload_n 0, 1) := by decide +kernel
theorem dX11_mealOf_192 : decode cX11_mealOf 192 = .ok (.getfield 16, 3) := by decide +kernel
theorem dX11_mealOf_195 : decode cX11_mealOf 195 = .ok (.aload_n 0, 1) := by decide +kernel
theorem dX11_mealOf_196 : decode cX11_mealOf 196 = .ok (.getfield 64, 3) := by decide +kernel
theorem dX11_mealOf_199 : decode cX11_mealOf 199 = .ok (.iaload, 1) := by decide +kernel
theorem dX11_mealOf_200 : decode cX11_mealOf 200 = .ok (.invokevirtual 281, 3) := by decide +kernel
theorem dX11_mealOf_203 : decode cX11_mealOf 203 = .ok (.aload_n 0, 1) := by decide +kernel
theorem dX11_mealOf_204 : decode cX11_mealOf 204 = .ok (.getfield 227, 3) := by decide +kernel
theorem dX11_mealOf_207 : decode cX11_mealOf 207 = .ok (.ireturn, 1) := by decide +kernel
theorem dX11_allMeals_0 : decode cX11_allMeals 0 = .ok (.iconst 0, 1) := by decide +kernel
theorem dX11_allMeals_1 : decode cX11_allMeals 1 = .ok (.istore_n 3, 1) := by decide +kernel
theorem dX11_allMeals_2 : decode cX11_allMeals 2 = .ok (.iconst 0, 1) := by decide +kernel
theorem dX11_allMeals_3 : decode cX11_allMeals 3 = .ok (.istore 4, 2) := by decide +kernel
theorem dX11_allMeals_5 : decode cX11_allMeals 5 = .ok (.iload 4, 2) := by decide +kernel
theorem dX11_allMeals_7 : decode cX11_allMeals 7 = .ok (.aload_n 0, 1) := by decide +kernel
theorem dX11_allMeals_8 : decode cX11_allMeals 8 = .ok (.getfield 289, 3) := by decide +kernel
theorem dX11_allMeals_11 : decode cX11_allMeals 11 = .ok (.if_icmp .ge 46, 3) := by decide +kernel
theorem dX11_allMeals_14 : decode cX11_allMeals 14 = .ok (.aload_n 0, 1) := by decide +kernel
theorem dX11_allMeals_15 : decode cX11_allMeals 15 = .ok (.iload 4, 2) := by decide +kernel
theorem dX11_allMeals_17 : decode cX11_allMeals 17 = .ok (.iload_n 2, 1) := by decide +kernel
theorem dX11_allMeals_18 : decode cX11_allMeals 18 = .ok (.invokevirtual 332, 3) := by decide +kernel
theorem dX11_allMeals_21 : decode cX11_allMeals 21 = .ok (.istore 5, 2) := by decide +kernel
theorem dX11_allMeals_23 : decode cX11_allMeals 23 = .ok (.iload_n 1, 1) := by decide +kernel
theorem dX11_allMeals_24 : decode cX11_allMeals 24 = .ok (.ifCond .ne 10, 3) := by decide +kernel
theorem dX11_allMeals_27 : decode cX11_allMeals 27 = .ok (.iload_n 3, 1) := by decide +kernel
theorem dX11_allMeals_28 : decode cX11_allMeals 28 = .ok (.iload 5, 2) := by decide +kernel
theorem dX11_allMeals_30 : decode cX11_allMeals 30 = .ok (.iadd, 1) := by decide +kernel
theorem dX11_allMeals_31 : decode cX11_allMeals 31 = .ok (.goto 19, 3) := by decide +kernel
theorem dX11_allMeals_34 : decode cX11_allMeals 34 = .ok (.iload 4, 2) := by decide +kernel
theorem dX11_allMeals_36 : decode cX11_allMeals 36 = .ok (.ifCond .ne 8, 3) := by decide +kernel
theorem dX11_allMeals_39 : decode cX11_allMeals 39 = .ok (.iload 5, 2) := by decide +kernel
theorem dX11_allMeals_41 : decode cX11_allMeals 41 = .ok (.goto 9, 3) := by decide +kernel
theorem dX11_allMeals_44 : decode cX11_allMeals 44 = .ok (.iload_n 3, 1) := by decide +kernel
theorem dX11_allMeals_45 : decode cX11_allMeals 45 = .ok (.iload 5, 2) := by decide +kernel
theorem dX11_allMeals_47 : decode cX11_allMeals 47 = .ok (.invokestatic 335, 3) := by decide +kernel
theorem dX11_allMeals_50 : decode cX11_allMeals 50 = .ok (.istore_n 3, 1) := by decide +kernel
theorem dX11_allMeals_51 : decode cX11_allMeals 51 = .ok (.iinc 4 1, 3) := by decide +kernel
theorem dX11_allMeals_54 : decode cX11_allMeals 54 = .ok (.goto (-49), 3) := by decide +kernel
theorem dX11_allMeals_57 : decode cX11_allMeals 57 = .ok (.iload_n 3, 1) := by decide +kernel
theorem dX11_allMeals_58 : decode cX11_allMeals 58 = .ok (.ireturn, 1) := by decide +kernel
theorem dX11_meal_0 : decode cX11_meal 0 = .ok (.aload_n 0, 1) := by decide +kernel
theorem dX11_meal_1 : decode cX11_meal 1 = .ok (.iconst 0, 1) := by decide +kernel
theorem dX11_meal_2 : decode cX11_meal 2 = .ok (.putfield 119, 3) := by decide +kernel
theorem dX11_meal_5 : decode cX11_meal 5 = .ok (.aload_n 0, 1) := by decide +kernel
theorem dX11_meal_6 : decode cX11_meal 6 = .ok (.iload_n 1, 1) := by decide +kernel
theorem dX11_meal_7 : decode cX11_meal 7 = .ok (.invokevirtual 301, 3) := by decide +kernel
theorem dX11_meal_10 : decode cX11_meal 10 = .ok (.ifCond .ne 7, 3) := by decide +kernel
theorem dX11_meal_13 : decode cX11_meal 13 = .ok (.ldc_w 337, 3) := by decide +kernel
theorem dX11_meal_16 : decode cX11_meal 16 = .ok (.ireturn, 1) := by decide +kernel
theorem dX11_meal_17 : decode cX11_meal 17 = .ok (.aload_n 0, 1) := by decide +kernel
theorem dX11_meal_18 : decode cX11_meal 18 = .ok (.aload_n 0, 1) := by decide +kernel
theorem dX11_meal_19 : decode cX11_meal 19 = .ok (.getfield 292, 3) := by decide +kernel
theorem dX11_meal_22 : decode cX11_meal 22 = .ok (.invokevirtual 338, 3) := by decide +kernel
theorem dX11_meal_25 : decode cX11_meal 25 = .ok (.aload_n 0, 1) := by decide +kernel
theorem dX11_meal_26 : decode cX11_meal 26 = .ok (.iload_n 1, 1) := by decide +kernel
theorem dX11_meal_27 : decode cX11_meal 27 = .ok (.aload_n 0, 1) := by decide +kernel
theorem dX11_meal_28 : decode cX11_meal 28 = .ok (.getfield 292, 3) := by decide +kernel
theorem dX11_meal_31 : decode cX11_meal 31 = .ok (.invokevirtual 332, 3) := by decide +kernel
theorem dX11_meal_34 : decode cX11_meal 34 = .ok (.ireturn, 1) := by decide +kernel
theorem dX11_share_0 : decode cX11_share 0 = .ok (.aload_n 0, 1) := by decide +kernel
theorem dX11_share_1 : decode cX11_share 1 = .ok (.iconst 0, 1) := by decide +kernel
theorem dX11_share_2 : decode cX11_share 2 = .ok (.putfield 119, 3) := by decide +kernel
theorem dX11_share_5 : decode cX11_share 5 = .ok (.aload_n 0, 1) := by decide +kernel
theorem dX11_share_6 : decode cX11_share 6 = .ok (.iload_n 1, 1) := by decide +kernel
theorem dX11_share_7 : decode cX11_share 7 = .ok (.invokevirtual 301, 3) := by decide +kernel
theorem dX11_share_10 : decode cX11_share 10 = .ok (.ifCond .eq 10, 3) := by decide +kernel
theorem dX11_share_13 : decode cX11_share 13 = .ok (.iload_n 2, 1) := by decide +kernel
theorem dX11_share_14 : decode cX11_share 14 = .ok (.invokestatic 309, 3) := by decide +kernel
theorem dX11_share_17 : decode cX11_share 17 = .ok (.ifCond .ne 5, 3) := by decide +kernel
theorem dX11_share_20 : decode cX11_share 20 = .ok (.iconst (-1), 1) := by decide +kernel
theorem dX11_share_21 : decode cX11_share 21 = .ok (.ireturn, 1) := by decide +kernel
theorem dX11_share_22 : decode cX11_share 22 = .ok (.aload_n 0, 1) := by decide +kernel
theorem dX11_share_23 : decode cX11_share 23 = .ok (.aload_n 0, 1) := by decide +kernel
theorem dX11_share_24 : decode cX11_share 24 = .ok (.getfield 292, 3) := by decide +kernel
theorem dX11_share_27 : decode cX11_share 27 = .ok (.invokevirtual 338, 3) := by decide +kernel
theorem dX11_share_30 : decode cX11_share 30 = .ok (.aload_n 0, 1) := by decide +kernel
theorem dX11_share_31 : decode cX11_share 31 = .ok (.getfield 74, 3) := by decide +kernel
theorem dX11_share_34 : decode cX11_share 34 = .ok (.bipush 6, 2) := by decide +kernel
theorem dX11_share_36 : decode cX11_share 36 = .ok (.iload_n 1, 1) := by decide +kernel
theorem dX11_share_37 : decode cX11_share 37 = .ok (.imul, 1) := by decide +kernel
theorem dX11_share_38 : decode cX11_share 38 = .ok (.iload_n 2, 1) := by decide +kernel
theorem dX11_share_39 : decode cX11_share 39 = .ok (.iadd, 1) := by decide +kernel
theorem dX11_share_40 : decode cX11_share 40 = .ok (.iaload, 1) := by decide +kernel
theorem dX11_share_41 : decode cX11_share 41 = .ok (.ireturn, 1) := by decide +kernel
theorem dX11_heat_0 : decode cX11_heat 0 = .ok (.aload_n 0, 1) := by decide +kernel
theorem dX11_heat_1 : decode cX11_heat 1 = .ok (.iconst 0, 1) := by decide +kernel
theorem dX11_heat_2 : decode cX11_heat 2 = .ok (.putfield 119, 3) := by decide +kernel
theorem dX11_heat_5 : decode cX11_heat 5 = .ok (.aload_n 0, 1) := by decide +kernel
theorem dX11_heat_6 : decode cX11_heat 6 = .ok (.iload_n 1, 1) := by decide +kernel
theorem dX11_heat_7 : decode cX11_heat 7 = .ok (.invokevirtual 301, 3) := by decide +kernel
theorem dX11_heat_10 : decode cX11_heat 10 = .ok (.ifCond .ne 5, 3) := by decide +kernel
theorem dX11_heat_13 : decode cX11_heat 13 = .ok (.iconst (-1), 1) := by decide +kernel
theorem dX11_heat_14 : decode cX11_heat 14 = .ok (.ireturn, 1) := by decide +kernel
theorem dX11_heat_15 : decode cX11_heat 15 = .ok (.aload_n 0, 1) := by decide +kernel
theorem dX11_heat_16 : decode cX11_heat 16 = .ok (.aload_n 0, 1) := by decide +kernel
theorem dX11_heat_17 : decode cX11_heat 17 = .ok (.getfield 292, 3) := by decide +kernel
theorem dX11_heat_20 : decode cX11_heat 20 = .ok (.invokevirtual 338, 3) := by decide +kernel
theorem dX11_heat_23 : decode cX11_heat 23 = .ok (.aload_n 0, 1) := by decide +kernel
theorem dX11_heat_24 : decode cX11_heat 24 = .ok (.getfield 77, 3) := by decide +kernel
theorem dX11_heat_27 : decode cX11_heat 27 = .ok (.iload_n 1, 1) := by decide +kernel
theorem dX11_heat_28 : decode cX11_heat 28 = .ok (.iaload, 1) := by decide +kernel
theorem dX11_heat_29 : decode cX11_heat 29 = .ok (.ireturn, 1) := by decide +kernel
theorem dX11_first_0 : decode cX11_first 0 = .ok (.aload_n 0, 1) := by decide +kernel
theorem dX11_first_1 : decode cX11_first 1 = .ok (.iconst 0, 1) := by decide +kernel
theorem dX11_first_2 : decode cX11_first 2 = .ok (.putfield 119, 3) := by decide +kernel
theorem dX11_first_5 : decode cX11_first 5 = .ok (.aload_n 0, 1) := by decide +kernel
theorem dX11_first_6 : decode cX11_first 6 = .ok (.getfield 289, 3) := by decide +kernel
theorem dX11_first_9 : decode cX11_first 9 = .ok (.ifCond .ne 5, 3) := by decide +kernel
theorem dX11_first_12 : decode cX11_first 12 = .ok (.iconst (-1), 1) := by decide +kernel
theorem dX11_first_13 : decode cX11_first 13 = .ok (.ireturn, 1) := by decide +kernel
theorem dX11_first_14 : decode cX11_first 14 = .ok (.aload_n 0, 1) := by decide +kernel
theorem dX11_first_15 : decode cX11_first 15 = .ok (.aload_n 0, 1) := by decide +kernel
theorem dX11_first_16 : decode cX11_first 16 = .ok (.getfield 292, 3) := by decide +kernel
theorem dX11_first_19 : decode cX11_first 19 = .ok (.invokevirtual 338, 3) := by decide +kernel
theorem dX11_first_22 : decode cX11_first 22 = .ok (.aload_n 0, 1) := by decide +kernel
theorem dX11_first_23 : decode cX11_first 23 = .ok (.getfield 317, 3) := by decide +kernel
theorem dX11_first_26 : decode cX11_first 26 = .ok (.ireturn, 1) := by decide +kernel
theorem dX11_left_0 : decode cX11_left 0 = .ok (.aload_n 0, 1) := by decide +kernel
theorem dX11_left_1 : decode cX11_left 1 = .ok (.iconst 0, 1) := by decide +kernel
theorem dX11_left_2 : decode cX11_left 2 = .ok (.putfield 119, 3) := by decide +kernel
theorem dX11_left_5 : decode cX11_left 5 = .ok (.aload_n 0, 1) := by decide +kernel
theorem dX11_left_6 : decode cX11_left 6 = .ok (.getfield 289, 3) := by decide +kernel
theorem dX11_left_9 : decode cX11_left 9 = .ok (.ifCond .ne 5, 3) := by decide +kernel
theorem dX11_left_12 : decode cX11_left 12 = .ok (.iconst (-1), 1) := by decide +kernel
theorem dX11_left_13 : decode cX11_left 13 = .ok (.ireturn, 1) := by decide +kernel
theorem dX11_left_14 : decode cX11_left 14 = .ok (.aload_n 0, 1) := by decide +kernel
theorem dX11_left_15 : decode cX11_left 15 = .ok (.aload_n 0, 1) := by decide +kernel
theorem dX11_left_16 : decode cX11_left 16 = .ok (.getfield 292, 3) := by decide +kernel
theorem dX11_left_19 : decode cX11_left 19 = .ok (.invokevirtual 338, 3) := by decide +kernel
theorem dX11_left_22 : decode cX11_left 22 = .ok (.iconst 0, 1) := by decide +kernel
theorem dX11_left_23 : decode cX11_left 23 = .ok (.istore_n 1, 1) := by decide +kernel
theorem dX11_left_24 : decode cX11_left 24 = .ok (.iconst 0, 1) := by decide +kernel
theorem dX11_left_25 : decode cX11_left 25 = .ok (.istore_n 2, 1) := by decide +kernel
theorem dX11_left_26 : decode cX11_left 26 = .ok (.iload_n 2, 1) := by decide +kernel
theorem dX11_left_27 : decode cX11_left 27 = .ok (.iconst 5, 1) := by decide +kernel
theorem dX11_left_28 : decode cX11_left 28 = .ok (.if_icmp .ge 33, 3) := by decide +kernel
theorem dX11_left_31 : decode cX11_left 31 = .ok (.iload_n 1, 1) := by decide +kernel
theorem dX11_left_32 : decode cX11_left 32 = .ok (.aload_n 0, 1) := by decide +kernel
theorem dX11_left_33 : decode cX11_left 33 = .ok (.getfield 74, 3) := by decide +kernel
theorem dX11_left_36 : decode cX11_left 36 = .ok (.bipush 6, 2) := by decide +kernel
theorem dX11_left_38 : decode cX11_left 38 = .ok (.aload_n 0, 1) := by decide +kernel
theorem dX11_left_39 : decode cX11_left 39 = .ok (.getfield 55, 3) := by decide +kernel
theorem dX11_left_42 : decode cX11_left 42 = .ok (.aload_n 0, 1) := by decide +kernel
theorem dX11_left_43 : decode cX11_left 43 = .ok (.getfield 289, 3) := by decide +kernel
theorem dX11_left_46 : decode cX11_left 46 = .ok (.iconst 1, 1) := by decide +kernel
theorem dX11_left_47 : decode cX11_left 47 = .ok (.isub, 1) := by decide +kernel
theorem dX11_left_48 : decode cX11_left 48 = .ok (.iaload, 1) := by decide +kernel
theorem dX11_left_49 : decode cX11_left 49 = .ok (.imul, 1) := by decide +kernel
theorem dX11_left_50 : decode cX11_left 50 = .ok (.iload_n 2, 1) := by decide +kernel
theorem dX11_left_51 : decode cX11_left 51 = .ok (.iadd, 1) := by decide +kernel
theorem dX11_left_52 : decode cX11_left 52 = .ok (.iaload, 1) := by decide +kernel
theorem dX11_left_53 : decode cX11_left 53 = .ok (.iadd, 1) := by decide +kernel
theorem dX11_left_54 : decode cX11_left 54 = .ok (.istore_n 1, 1) := by decide +kernel
theorem dX11_left_55 : decode cX11_left 55 = .ok (.iinc 2 1, 3) := by decide +kernel
theorem dX11_left_58 : decode cX11_left 58 = .ok (.goto (-32), 3) := by decide +kernel
theorem dX11_left_61 : decode cX11_left 61 = .ok (.iload_n 1, 1) := by decide +kernel
theorem dX11_left_62 : decode cX11_left 62 = .ok (.ireturn, 1) := by decide +kernel
theorem dX11_remember_0 : decode cX11_remember 0 = .ok (.aload_n 0, 1) := by decide +kernel
theorem dX11_remember_1 : decode cX11_remember 1 = .ok (.getfield 295, 3) := by decide +kernel
theorem dX11_remember_4 : decode cX11_remember 4 = .ok (.bipush 30, 2) := by decide +kernel
theorem dX11_remember_6 : decode cX11_remember 6 = .ok (.if_icmp .ne 73, 3) := by decide +kernel
theorem dX11_remember_9 : decode cX11_remember 9 = .ok (.iconst 0, 1) := by decide +kernel
theorem dX11_remember_10 : decode cX11_remember 10 = .ok (.istore_n 1, 1) := by decide +kernel
theorem dX11_remember_11 : decode cX11_remember 11 = .ok (.iload_n 1, 1) := by decide +kernel
theorem dX11_remember_12 : decode cX11_remember 12 = .ok (.sipush 870, 3) := by decide +kernel
theorem dX11_remember_15 : decode cX11_remember 15 = .ok (.if_icmp .ge 24, 3) := by decide +kernel
theorem dX11_remember_18 : decode cX11_remember 18 = .ok (.aload_n 0, 1) := by decide +kernel
theorem dX11_remember_19 : decode cX11_remember 19 = .ok (.getfield 92, 3) := by decide +kernel
theorem dX11_remember_22 : decode cX11_remember 22 = .ok (.iload_n 1, 1) := by decide +kernel
theorem dX11_remember_23 : decode cX11_remember 23 = .ok (.aload_n 0, 1) := by decide +kernel
theorem dX11_remember_24 : decode cX11_remember 24 = .ok (.getfield 92, 3) := by decide +kernel
theorem dX11_remember_27 : decode cX11_remember 27 = .ok (.iload_n 1, 1) := by decide +kernel
theorem dX11_remember_28 : decode cX11_remember 28 = .ok (.bipush 30, 2) := by decide +kernel
theorem dX11_remember_30 : decode cX11_remember 30 = .ok (.iadd, 1) := by decide +kernel
theorem dX11_remember_31 : decode cX11_remember 31 = .ok (.iaload, 1) := by decide +kernel
theorem dX11_remember_32 : decode cX11_remember 32 = .ok (.iastore, 1) := by decide +kernel
theorem dX11_remember_33 : decode cX11_remember 33 = .ok (.iinc 1 1, 3) := by decide +kernel
theorem dX11_remember_36 : decode cX11_remember 36 = .ok (.goto (-25), 3) := by decide +kernel
theorem dX11_remember_39 : decode cX11_remember 39 = .ok (.iconst 0, 1) := by decide +kernel
theorem dX11_remember_40 : decode cX11_remember 40 = .ok (.istore_n 1, 1) := by decide +kernel
theorem dX11_remember_41 : decode cX11_remember 41 = .ok (.iload_n 1, 1) := by decide +kernel
theorem dX11_remember_42 : decode cX11_remember 42 = .ok (.sipush 174, 3) := by decide +kernel
theorem dX11_remember_45 : decode cX11_remember 45 = .ok (.if_icmp .ge 24, 3) := by decide +kernel
theorem dX11_remember_48 : decode cX11_remember 48 = .ok (.aload_n 0, 1) := by decide +kernel
theorem dX11_remember_49 : decode cX11_remember 49 = .ok (.getfield 95, 3) := by decide +kernel
theorem dX11_remember_52 : decode cX11_remember 52 = .ok (.iload_n 1, 1) := by decide +kernel
theorem dX11_remember_53 : decode cX11_remember 53 = .ok (.aload_n 0, 1) := by decide +kernel
theorem dX11_remember_54 : decode cX11_remember 54 = .ok (.getfield 95, 3) := by decide +kernel
theorem dX11_remember_57 : decode cX11_remember 57 = .ok (.iload_n 1, 1) := by decide +kernel
theorem dX11_remember_58 : decode cX11_remember 58 = .ok (.bipush 6, 2) := by decide +kernel
theorem dX11_remember_60 : decode cX11_remember 60 = .ok (.iadd, 1) := by decide +kernel
theorem dX11_remember_61 : decode cX11_remember 61 = .ok (.iaload, 1) := by decide +kernel
theorem dX11_remember_62 : decode cX11_remember 62 = .ok (.iastore, 1) := by decide +kernel
theorem dX11_remember_63 : decode cX11_remember 63 = .ok (.iinc 1 1, 3) := by decide +kernel
theorem dX11_remember_66 : decode cX11_remember 66 = .ok (.goto (-25), 3) := by decide +kernel
theorem dX11_remember_69 : decode cX11_remember 69 = .ok (.aload_n 0, 1) := by decide +kernel
theorem dX11_remember_70 : decode cX11_remember 70 = .ok (.dup, 1) := by decide +kernel
theorem dX11_remember_71 : decode cX11_remember 71 = .ok (.getfield 295, 3) := by decide +kernel
theorem dX11_remember_74 : decode cX11_remember 74 = .ok (.iconst 1, 1) := by decide +kernel
theorem dX11_remember_75 : decode cX11_remember 75 = .ok (.isub, 1) := by decide +kernel
theorem dX11_remember_76 : decode cX11_remember 76 = .ok (.putfield 295, 3) := by decide +kernel
theorem dX11_remember_79 : decode cX11_remember 79 = .ok (.iconst 0, 1) := by decide +kernel
theorem dX11_remember_80 : decode cX11_remember 80 = .ok (.istore_n 1, 1) := by decide +kernel
theorem dX11_remember_81 : decode cX11_remember 81 = .ok (.iload_n 1, 1) := by decide +kernel
theorem dX11_remember_82 : decode cX11_remember 82 = .ok (.bipush 6, 2) := by decide +kernel
theorem dX11_remember_84 : decode cX11_remember 84 = .ok (.if_icmp .ge 71, 3) := by decide +kernel
theorem dX11_remember_87 : decode cX11_remember 87 = .ok (.iconst 0, 1) := by decide +kernel
theorem dX11_remember_88 : decode cX11_remember 88 = .ok (.istore_n 2, 1) := by decide +kernel
theorem dX11_remember_89 : decode cX11_remember 89 = .ok (.iload_n 2, 1) := by decide +kernel
theorem dX11_remember_90 : decode cX11_remember 90 = .ok (.iconst 5, 1) := by decide +kernel
theorem dX11_remember_91 : decode cX11_remember 91 = .ok (.if_icmp .ge 38, 3) := by decide +kernel
theorem dX11_remember_94 : decode cX11_remember 94 = .ok (.aload_n 0, 1) := by decide +kernel
theorem dX11_remember_95 : decode cX11_remember 95 = .ok (.getfield 92, 3) := by decide +kernel
theorem dX11_remember_98 : decode cX11_remember 98 = .ok (.bipush 30, 2) := by decide +kernel
theorem dX11_remember_100 : decode cX11_remember 100 = .ok (.aload_n 0, 1) := by decide +kernel
theorem dX11_remember_101 : decode cX11_remember 101 = .ok (.getfield 295, 3) := by decide +kernel
theorem dX11_remember_104 : decode cX11_remember 104 = .ok (.imul, 1) := by decide +kernel
theorem dX11_remember_105 : decode cX11_remember 105 = .ok (.iconst 5, 1) := by decide +kernel
theorem dX11_remember_106 : decode cX11_remember 106 = .ok (.iload_n 1, 1) := by decide +kernel
theorem dX11_remember_107 : decode cX11_remember 107 = .ok (.imul, 1) := by decide +kernel
theorem dX11_remember_108 : decode cX11_remember 108 = .ok (.iadd, 1) := by decide +kernel
theorem dX11_remember_109 : decode cX11_remember 109 = .ok (.iload_n 2, 1) := by decide +kernel
theorem dX11_remember_110 : decode cX11_remember 110 = .ok (.iadd, 1) := by decide +kernel
theorem dX11_remember_111 : decode cX11_remember 111 = .ok (.aload_n 0, 1) := by decide +kernel
theorem dX11_remember_112 : decode cX11_remember 112 = .ok (.getfield 43, 3) := by decide +kernel
theorem dX11_remember_115 : decode cX11_remember 115 = .ok (.bipush 8, 2) := by decide +kernel
theorem dX11_remember_117 : decode cX11_remember 117 = .ok (.iload_n 1, 1) := by decide +kernel
theorem dX11_remember_118 : decode cX11_remember 118 = .ok (.imul, 1) := by decide +kernel
theorem dX11_remember_119 : decode cX11_remember 119 = .ok (.iload_n 2, 1) := by decide +kernel
theorem dX11_remember_120 : decode cX11_remember 120 = .ok (.iadd, 1) := by decide +kernel
theorem dX11_remember_121 : decode cX11_remember 121 = .ok (.iaload, 1) := by decide +kernel
theorem dX11_remember_122 : decode cX11_remember 122 = .ok (.iastore, 1) := by decide +kernel
theorem dX11_remember_123 : decode cX11_remember 123 = .ok (.iinc 2 1, 3) := by decide +kernel
theorem dX11_remember_126 : decode cX11_remember 126 = .ok (.goto (-37), 3) := by decide +kernel
theorem dX11_remember_129 : decode cX11_remember 129 = .ok (.aload_n 0, 1) := by decide +kernel
theorem dX11_remember_130 : decode cX11_remember 130 = .ok (.getfield 95, 3) := by decide +kernel
theorem dX11_remember_133 : decode cX11_remember 133 = .ok (.bipush 6, 2) := by decide +kernel
theorem dX11_remember_135 : decode cX11_remember 135 = .ok (.aload_n 0, 1) := by decide +kernel
theorem dX11_remember_136 : decode cX11_remember 136 = .ok (.getfield 295, 3) := by decide +kernel
theorem dX11_remember_139 : decode cX11_remember 139 = .ok (.imul, 1) := by decide +kernel
theorem dX11_remember_140 : decode cX11_remember 140 = .ok (.iload_n 1, 1) := by decide +kernel
theorem dX11_remember_141 : decode cX11_remember 141 = .ok (.iadd, 1) := by decide +kernel
theorem dX11_remember_142 : decode cX11_remember 142 = .ok (.aload_n 0, 1) := by decide +kernel
theorem dX11_remember_143 : decode cX11_remember 143 = .ok (.getfield 61, 3) := by decide +kernel
theorem dX11_remember_146 : decode cX11_remember 146 = .ok (.iload_n 1, 1) := by decide +kernel
theorem dX11_remember_147 : decode cX11_remember 147 = .ok (.iaload, 1) := by decide +kernel
theorem dX11_remember_148 : decode cX11_remember 148 = .ok (.iastore, 1) := by decide +kernel
theorem dX11_remember_149 : decode cX11_remember 149 = .ok (.iinc 1 1, 3) := by decide +kernel
theorem dX11_remember_152 : decode cX11_remember 152 = .ok (.goto (-71), 3) := by decide +kernel
theorem dX11_remember_155 : decode cX11_remember 155 = .ok (.aload_n 0, 1) := by decide +kernel
theorem dX11_remember_156 : decode cX11_remember 156 = .ok (.dup, 1) := by decide +kernel
theorem dX11_remember_157 : decode cX11_remember 157 = .ok (.getfield 295, 3) := by decide +kernel
theorem dX11_remember_160 : decode cX11_remember 160 = .ok (.iconst 1, 1) := by decide +kernel
theorem dX11_remember_161 : decode cX11_remember 161 = .ok (.iadd, 1) := by decide +kernel
theorem dX11_remember_162 : decode cX11_remember 162 = .ok (.putfield 295, 3) := by decide +kernel
theorem dX11_remember_165 : decode cX11_remember 165 = .ok (.return_, 1) := by decide +kernel
theorem dX11_goesBy_0 : decode cX11_goesBy 0 = .ok (.aload_n 0, 1) := by decide +kernel
theorem dX11_goesBy_1 : decode cX11_goesBy 1 = .ok (.invokevirtual 341, 3) := by decide +kernel
theorem dX11_goesBy_4 : decode cX11_goesBy 4 = .ok (.aload_n 0, 1) := by decide +kernel
theorem dX11_goesBy_5 : decode cX11_goesBy 5 = .ok (.aload_n 0, 1) := by decide +kernel
theorem dX11_goesBy_6 : decode cX11_goesBy 6 = .ok (.getfield 292, 3) := by decide +kernel
theorem dX11_goesBy_9 : decode cX11_goesBy 9 = .ok (.invokevirtual 338, 3) := by decide +kernel
theorem dX11_goesBy_12 : decode cX11_goesBy 12 = .ok (.iconst 0, 1) := by decide +kernel
theorem dX11_goesBy_13 : decode cX11_goesBy 13 = .ok (.istore_n 1, 1) := by decide +kernel
theorem dX11_goesBy_14 : decode cX11_goesBy 14 = .ok (.iload_n 1, 1) := by decide +kernel
theorem dX11_goesBy_15 : decode cX11_goesBy 15 = .ok (.aload_n 0, 1) := by decide +kernel
theorem dX11_goesBy_16 : decode cX11_goesBy 16 = .ok (.getfield 289, 3) := by decide +kernel
theorem dX11_goesBy_19 : decode cX11_goesBy 19 = .ok (.if_icmp .ge 63, 3) := by decide +kernel
theorem dX11_goesBy_22 : decode cX11_goesBy 22 = .ok (.aload_n 0, 1) := by decide +kernel
theorem dX11_goesBy_23 : decode cX11_goesBy 23 = .ok (.getfield 61, 3) := by decide +kernel
theorem dX11_goesBy_26 : decode cX11_goesBy 26 = .ok (.iload_n 1, 1) := by decide +kernel
theorem dX11_goesBy_27 : decode cX11_goesBy 27 = .ok (.dup2, 1) := by decide +kernel
theorem dX11_goesBy_28 : decode cX11_goesBy 28 = .ok (.iaload, 1) := by decide +kernel
theorem dX11_goesBy_29 : decode cX11_goesBy 29 = .ok (.aload_n 0, 1) := by decide +kernel
theorem dX11_goesBy_30 : decode cX11_goesBy 30 = .ok (.iload_n 1, 1) := by decide +kernel
theorem dX11_goesBy_31 : decode cX11_goesBy 31 = .ok (.aload_n 0, 1) := by decide +kernel
theorem dX11_goesBy_32 : decode cX11_goesBy 32 = .ok (.getfield 292, 3) := by decide +kernel
theorem dX11_goesBy_35 : decode cX11_goesBy 35 = .ok (.invokevirtual 332, 3) := by decide +kernel
theorem dX11_goesBy_38 : decode cX11_goesBy 38 = .ok (.iadd, 1) := by decide +kernel
theorem dX11_goesBy_39 : decode cX11_goesBy 39 = .ok (.iastore, 1) := by decide +kernel
theorem dX11_goesBy_40 : decode cX11_goesBy 40 = .ok (.aload_n 0, 1) := by decide +kernel
theorem dX11_goesBy_41 : decode cX11_goesBy 41 = .ok (.getfield 83, 3) := by decide +kernel
theorem dX11_goesBy_44 : decode cX11_goesBy 44 = .ok (.iload_n 1, 1) := by decide +kernel
theorem dX11_goesBy_45 : decode cX11_goesBy 45 = .ok (.iaload, 1) := by decide +kernel
theorem dX11_goesBy_46 : decode cX11_goesBy 46 = .ok (.bipush 9, 2) := by decide +kernel
theorem dX11_goesBy_48 : decode cX11_goesBy 48 = .ok (.if_icmp .eq 28, 3) := by decide +kernel
theorem dX11_goesBy_51 : decode cX11_goesBy 51 = .ok (.aload_n 0, 1) := by decide +kernel
theorem dX11_goesBy_52 : decode cX11_goesBy 52 = .ok (.getfield 43, 3) := by decide +kernel
theorem dX11_goesBy_55 : decode cX11_goesBy 55 = .ok (.bipush 8, 2) := by decide +kernel
theorem dX11_goesBy_57 : decode cX11_goesBy 57 = .ok (.iload_n 1, 1) := by decide +kernel
theorem dX11_goesBy_58 : decode cX11_goesBy 58 = .ok (.imul, 1) := by decide +kernel
theorem dX11_goesBy_59 : decode cX11_goesBy 59 = .ok (.aload_n 0, 1) := by decide +kernel
theorem dX11_goesBy_60 : decode cX11_goesBy 60 = .ok (.getfield 83, 3) := by decide +kernel
theorem dX11_goesBy_63 : decode cX11_goesBy 63 = .ok (.iload_n 1, 1) := by decide +kernel
theorem dX11_goesBy_64 : decode cX11_goesBy 64 = .ok (.iaload, 1) := by decide +kernel
theorem dX11_goesBy_65 : decode cX11_goesBy 65 = .ok (.iadd, 1) := by decide +kernel
theorem dX11_goesBy_66 : decode cX11_goesBy 66 = .ok (.dup2, 1) := by decide +kernel
theorem dX11_goesBy_67 : decode cX11_goesBy 67 = .ok (.iaload, 1) := by decide +kernel
theorem dX11_goesBy_68 : decode cX11_goesBy 68 = .ok (.aload_n 0, 1) := by decide +kernel
theorem dX11_goesBy_69 : decode cX11_goesBy 69 = .ok (.getfield 49, 3) := by decide +kernel
theorem dX11_goesBy_72 : decode cX11_goesBy 72 = .ok (.iconst 0, 1) := by decide +kernel
theorem dX11_goesBy_73 : decode cX11_goesBy 73 = .ok (.iaload, 1) := by decide +kernel
theorem dX11_goesBy_74 : decode cX11_goesBy 74 = .ok (.isub, 1) := by decide +kernel
theorem dX11_goesBy_75 : decode cX11_goesBy 75 = .ok (.iastore, 1) := by decide +kernel
theorem dX11_goesBy_76 : decode cX11_goesBy 76 = .ok (.iinc 1 1, 3) := by decide +kernel
theorem dX11_goesBy_79 : decode cX11_goesBy 79 = .ok (.goto (-65), 3) := by decide +kernel
theorem dX11_goesBy_82 : decode cX11_goesBy 82 = .ok (.aload_n 0, 1) := by decide +kernel
theorem dX11_goesBy_83 : decode cX11_goesBy 83 = .ok (.dup, 1) := by decide +kernel
theorem dX11_goesBy_84 : decode cX11_goesBy 84 = .ok (.getfield 292, 3) := by decide +kernel
theorem dX11_goesBy_87 : decode cX11_goesBy 87 = .ok (.iconst 1, 1) := by decide +kernel
theorem dX11_goesBy_88 : decode cX11_goesBy 88 = .ok (.iadd, 1) := by decide +kernel
theorem dX11_goesBy_89 : decode cX11_goesBy 89 = .ok (.putfield 292, 3) := by decide +kernel
theorem dX11_goesBy_92 : decode cX11_goesBy 92 = .ok (.return_, 1) := by decide +kernel
theorem dX11_days_0 : decode cX11_days 0 = .ok (.aload_n 0, 1) := by decide +kernel
theorem dX11_days_1 : decode cX11_days 1 = .ok (.iconst 0, 1) := by decide +kernel
theorem dX11_days_2 : decode cX11_days 2 = .ok (.putfield 119, 3) := by decide +kernel
theorem dX11_days_5 : decode cX11_days 5 = .ok (.aload_n 0, 1) := by decide +kernel
theorem dX11_days_6 : decode cX11_days 6 = .ok (.getfield 289, 3) := by decide +kernel
theorem dX11_days_9 : decode cX11_days 9 = .ok (.ifCond .eq 27, 3) := by decide +kernel
theorem dX11_days_12 : decode cX11_days 12 = .ok (.iload_n 1, 1) := by decide +kernel
theorem dX11_days_13 : decode cX11_days 13 = .ok (.i2l, 1) := by decide +kernel
theorem dX11_days_14 : decode cX11_days 14 = .ok (.lconst 1, 1) := by decide +kernel
theorem dX11_days_15 : decode cX11_days 15 = .ok (.ldc2_w 344, 3) := by decide +kernel
theorem dX11_days_18 : decode cX11_days 18 = .ok (.invokestatic 240, 3) := by decide +kernel
theorem dX11_days_21 : decode cX11_days 21 = .ok (.ifCond .eq 15, 3) := by decide +kernel
theorem dX11_days_24 : decode cX11_days 24 = .ok (.aload_n 0, 1) := by decide +kernel
theorem dX11_days_25 : decode cX11_days 25 = .ok (.getfield 292, 3) := by decide +kernel
theorem dX11_days_28 : decode cX11_days 28 = .ok (.iload_n 1, 1) := by decide +kernel
theorem dX11_days_29 : decode cX11_days 29 = .ok (.iadd, 1) := by decide +kernel
theorem dX11_days_30 : decode cX11_days 30 = .ok (.sipush 999, 3) := by decide +kernel
theorem dX11_days_33 : decode cX11_days 33 = .ok (.if_icmp .le 5, 3) := by decide +kernel
theorem dX11_days_36 : decode cX11_days 36 = .ok (.iconst (-1), 1) := by decide +kernel
theorem dX11_days_37 : decode cX11_days 37 = .ok (.ireturn, 1) := by decide +kernel
theorem dX11_days_38 : decode cX11_days 38 = .ok (.iconst 0, 1) := by decide +kernel
theorem dX11_days_39 : decode cX11_days 39 = .ok (.istore_n 2, 1) := by decide +kernel
theorem dX11_days_40 : decode cX11_days 40 = .ok (.iload_n 2, 1) := by decide +kernel
theorem dX11_days_41 : decode cX11_days 41 = .ok (.iload_n 1, 1) := by decide +kernel
theorem dX11_days_42 : decode cX11_days 42 = .ok (.if_icmp .ge 13, 3) := by decide +kernel
theorem dX11_days_45 : decode cX11_days 45 = .ok (.aload_n 0, 1) := by decide +kernel
theorem dX11_days_46 : decode cX11_days 46 = .ok (.invokevirtual 346, 3) := by decide +kernel
theorem dX11_days_49 : decode cX11_days 49 = .ok (.iinc 2 1, 3) := by decide +kernel
theorem dX11_days_52 : decode cX11_days 52 = .ok (.goto (-12), 3) := by decide +kernel
theorem dX11_days_55 : decode cX11_days 55 = .ok (.aload_n 0, 1) := by decide +kernel
theorem dX11_days_56 : decode cX11_days 56 = .ok (.getfield 292, 3) := by decide +kernel
theorem dX11_days_59 : decode cX11_days 59 = .ok (.ireturn, 1) := by decide +kernel
theorem dX11_undo_0 : decode cX11_undo 0 = .ok (.aload_n 0, 1) := by decide +kernel
theorem dX11_undo_1 : decode cX11_undo 1 = .ok (.iconst 0, 1) := by decide +kernel
theorem dX11_undo_2 : decode cX11_undo 2 = .ok (.putfield 119, 3) := by decide +kernel
theorem dX11_undo_5 : decode cX11_undo 5 = .ok (.aload_n 0, 1) := by decide +kernel
theorem dX11_undo_6 : decode cX11_undo 6 = .ok (.getfield 295, 3) := by decide +kernel
theorem dX11_undo_9 : decode cX11_undo 9 = .ok (.ifCond .ne 5, 3) := by decide +kernel
theorem dX11_undo_12 : decode cX11_undo 12 = .ok (.iconst (-1), 1) := by decide +kernel
theorem dX11_undo_13 : decode cX11_undo 13 = .ok (.ireturn, 1) := by decide +kernel
theorem dX11_undo_14 : decode cX11_undo 14 = .ok (.aload_n 0, 1) := by decide +kernel
theorem dX11_undo_15 : decode cX11_undo 15 = .ok (.dup, 1) := by decide +kernel
theorem dX11_undo_16 : decode cX11_undo 16 = .ok (.getfield 295, 3) := by decide +kernel
theorem dX11_undo_19 : decode cX11_undo 19 = .ok (.iconst 1, 1) := by decide +kernel
theorem dX11_undo_20 : decode cX11_undo 20 = .ok (.isub, 1) := by decide +kernel
theorem dX11_undo_21 : decode cX11_undo 21 = .ok (.putfield 295, 3) := by decide +kernel
theorem dX11_undo_24 : decode cX11_undo 24 = .ok (.iconst 0, 1) := by decide +kernel
theorem dX11_undo_25 : decode cX11_undo 25 = .ok (.istore_n 1, 1) := by decide +kernel
theorem dX11_undo_26 : decode cX11_undo 26 = .ok (.iload_n 1, 1) := by decide +kernel
theorem dX11_undo_27 : decode cX11_undo 27 = .ok (.bipush 6, 2) := by decide +kernel
theorem dX11_undo_29 : decode cX11_undo 29 = .ok (.if_icmp .ge 71, 3) := by decide +kernel
theorem dX11_undo_32 : decode cX11_undo 32 = .ok (.iconst 0, 1) := by decide +kernel
theorem dX11_undo_33 : decode cX11_undo 33 = .ok (.istore_n 2, 1) := by decide +kernel
theorem dX11_undo_34 : decode cX11_undo 34 = .ok (.iload_n 2, 1) := by decide +kernel
theorem dX11_undo_35 : decode cX11_undo 35 = .ok (.iconst 5, 1) := by decide +kernel
theorem dX11_undo_36 : decode cX11_undo 36 = .ok (.if_icmp .ge 38, 3) := by decide +kernel
theorem dX11_undo_39 : decode cX11_undo 39 = .ok (.aload_n 0, 1) := by decide +kernel
theorem dX11_undo_40 : decode cX11_undo 40 = .ok (.getfield 43, 3) := by decide +kernel
theorem dX11_undo_43 : decode cX11_undo 43 = .ok (.bipush 8, 2) := by decide +kernel
theorem dX11_undo_45 : decode cX11_undo 45 = .ok (.iload_n 1, 1) := by decide +kernel
theorem dX11_undo_46 : decode cX11_undo 46 = .ok (.imul, 1) := by decide +kernel
theorem dX11_undo_47 : decode cX11_undo 47 = .ok (.iload_n 2, 1) := by decide +kernel
theorem dX11_undo_48 : decode cX11_undo 48 = .ok (.iadd, 1) := by decide +kernel
theorem dX11_undo_49 : decode cX11_undo 49 = .ok (.aload_n 0, 1) := by decide +kernel
theorem dX11_undo_50 : decode cX11_undo 50 = .ok (.getfield 92, 3) := by decide +kernel
theorem dX11_undo_53 : decode cX11_undo 53 = .ok (.bipush 30, 2) := by decide +kernel
theorem dX11_undo_55 : decode cX11_undo 55 = .ok (.aload_n 0, 1) := by decide +kernel
theorem dX11_undo_56 : decode cX11_undo 56 = .ok (.getfield 295, 3) := by decide +kernel
theorem dX11_undo_59 : decode cX11_undo 59 = .ok (.imul, 1) := by decide +kernel
theorem dX11_undo_60 : decode cX11_undo 60 = .ok (.iconst 5, 1) := by decide +kernel
theorem dX11_undo_61 : decode cX11_undo 61 = .ok (.iload_n 1, 1) := by decide +kernel
theorem dX11_undo_62 : decode cX11_undo 62 = .ok (.imul, 1) := by decide +kernel
theorem dX11_undo_63 : decode cX11_undo 63 = .ok (.iadd, 1) := by decide +kernel
theorem dX11_undo_64 : decode cX11_undo 64 = .ok (.iload_n 2, 1) := by decide +kernel
theorem dX11_undo_65 : decode cX11_undo 65 = .ok (.iadd, 1) := by decide +kernel
theorem dX11_undo_66 : decode cX11_undo 66 = .ok (.iaload, 1) := by decide +kernel
theorem dX11_undo_67 : decode cX11_undo 67 = .ok (.iastore, 1) := by decide +kernel
theorem dX11_undo_68 : decode cX11_undo 68 = .ok (.iinc 2 1, 3) := by decide +kernel
theorem dX11_undo_71 : decode cX11_undo 71 = .ok (.goto (-37), 3) := by decide +kernel
theorem dX11_undo_74 : decode cX11_undo 74 = .ok (.aload_n 0, 1) := by decide +kernel
theorem dX11_undo_75 : decode cX11_undo 75 = .ok (.getfield 61, 3) := by decide +kernel
theorem dX11_undo_78 : decode cX11_undo 78 = .ok (.iload_n 1, 1) := by decide +kernel
theorem dX11_undo_79 : decode cX11_undo 79 = .ok (.aload_n 0, 1) := by decide +kernel
theorem dX11_undo_80 : decode cX11_undo 80 = .ok (.getfield 95, 3) := by decide +kernel
theorem dX11_undo_83 : decode cX11_undo 83 = .ok (.bipush 6, 2) := by decide +kernel
theorem dX11_undo_85 : decode cX11_undo 85 = .ok (.aload_n 0, 1) := by decide +kernel
theorem dX11_undo_86 : decode cX11_undo 86 = .ok (.getfield 295, 3) := by decide +kernel
theorem dX11_undo_89 : decode cX11_undo 89 = .ok (.imul, 1) := by decide +kernel
theorem dX11_undo_90 : decode cX11_undo 90 = .ok (.iload_n 1, 1) := by decide +kernel
theorem dX11_undo_91 : decode cX11_undo 91 = .ok (.iadd, 1) := by decide +kernel
theorem dX11_undo_92 : decode cX11_undo 92 = .ok (.iaload, 1) := by decide +kernel
theorem dX11_undo_93 : decode cX11_undo 93 = .ok (.iastore, 1) := by decide +kernel
theorem dX11_undo_94 : decode cX11_undo 94 = .ok (.iinc 1 1, 3) := by decide +kernel
theorem dX11_undo_97 : decode cX11_undo 97 = .ok (.goto (-71), 3) := by decide +kernel
theorem dX11_undo_100 : decode cX11_undo 100 = .ok (.aload_n 0, 1) := by decide +kernel
theorem dX11_undo_101 : decode cX11_undo 101 = .ok (.dup, 1) := by decide +kernel
theorem dX11_undo_102 : decode cX11_undo 102 = .ok (.getfield 292, 3) := by decide +kernel
theorem dX11_undo_105 : decode cX11_undo 105 = .ok (.iconst 1, 1) := by decide +kernel
theorem dX11_undo_106 : decode cX11_undo 106 = .ok (.isub, 1) := by decide +kernel
theorem dX11_undo_107 : decode cX11_undo 107 = .ok (.putfield 292, 3) := by decide +kernel
theorem dX11_undo_110 : decode cX11_undo 110 = .ok (.aload_n 0, 1) := by decide +kernel
theorem dX11_undo_111 : decode cX11_undo 111 = .ok (.getfield 292, 3) := by decide +kernel
theorem dX11_undo_114 : decode cX11_undo 114 = .ok (.ireturn, 1) := by decide +kernel
theorem dX11_eaten_0 : decode cX11_eaten 0 = .ok (.aload_n 0, 1) := by decide +kernel
theorem dX11_eaten_1 : decode cX11_eaten 1 = .ok (.iconst 0, 1) := by decide +kernel
theorem dX11_eaten_2 : decode cX11_eaten 2 = .ok (.putfield 119, 3) := by decide +kernel
theorem dX11_eaten_5 : decode cX11_eaten 5 = .ok (.aload_n 0, 1) := by decide +kernel
theorem dX11_eaten_6 : decode cX11_eaten 6 = .ok (.iload_n 1, 1) := by decide +kernel
theorem dX11_eaten_7 : decode cX11_eaten 7 = .ok (.invokevirtual 301, 3) := by decide +kernel
theorem dX11_eaten_10 : decode cX11_eaten 10 = .ok (.ifCond .eq 12, 3) := by decide +kernel
theorem dX11_eaten_13 : decode cX11_eaten 13 = .ok (.aload_n 0, 1) := by decide +kernel
theorem dX11_eaten_14 : decode cX11_eaten 14 = .ok (.getfield 61, 3) := by decide +kernel
theorem dX11_eaten_17 : decode cX11_eaten 17 = .ok (.iload_n 1, 1) := by decide +kernel
theorem dX11_eaten_18 : decode cX11_eaten 18 = .ok (.iaload, 1) := by decide +kernel
theorem dX11_eaten_19 : decode cX11_eaten 19 = .ok (.goto 6, 3) := by decide +kernel
theorem dX11_eaten_22 : decode cX11_eaten 22 = .ok (.ldc_w 337, 3) := by decide +kernel
theorem dX11_eaten_25 : decode cX11_eaten 25 = .ok (.ireturn, 1) := by decide +kernel
theorem dX11_drawn_0 : decode cX11_drawn 0 = .ok (.aload_n 0, 1) := by decide +kernel
theorem dX11_drawn_1 : decode cX11_drawn 1 = .ok (.iconst 0, 1) := by decide +kernel
theorem dX11_drawn_2 : decode cX11_drawn 2 = .ok (.putfield 119, 3) := by decide +kernel
theorem dX11_drawn_5 : decode cX11_drawn 5 = .ok (.aload_n 0, 1) := by decide +kernel
theorem dX11_drawn_6 : decode cX11_drawn 6 = .ok (.getfield 289, 3) := by decide +kernel
theorem dX11_drawn_9 : decode cX11_drawn 9 = .ok (.ifCond .eq 27, 3) := by decide +kernel
theorem dX11_drawn_12 : decode cX11_drawn 12 = .ok (.iload_n 1, 1) := by decide +kernel
theorem dX11_drawn_13 : decode cX11_drawn 13 = .ok (.i2l, 1) := by decide +kernel
theorem dX11_drawn_14 : decode cX11_drawn 14 = .ok (.lconst 1, 1) := by decide +kernel
theorem dX11_drawn_15 : decode cX11_drawn 15 = .ok (.ldc2_w 344, 3) := by decide +kernel
theorem dX11_drawn_18 : decode cX11_drawn 18 = .ok (.invokestatic 240, 3) := by decide +kernel
theorem dX11_drawn_21 : decode cX11_drawn 21 = .ok (.ifCond .eq 15, 3) := by decide +kernel
theorem dX11_drawn_24 : decode cX11_drawn 24 = .ok (.aload_n 0, 1) := by decide +kernel
theorem dX11_drawn_25 : decode cX11_drawn 25 = .ok (.getfield 292, 3) := by decide +kernel
theorem dX11_drawn_28 : decode cX11_drawn 28 = .ok (.iload_n 1, 1) := by decide +kernel
theorem dX11_drawn_29 : decode cX11_drawn 29 = .ok (.iadd, 1) := by decide +kernel
theorem dX11_drawn_30 : decode cX11_drawn 30 = .ok (.sipush 999, 3) := by decide +kernel
theorem dX11_drawn_33 : decode cX11_drawn 33 = .ok (.if_icmp .le 5, 3) := by decide +kernel
theorem dX11_drawn_36 : decode cX11_drawn 36 = .ok (.iconst (-1), 1) := by decide +kernel
theorem dX11_drawn_37 : decode cX11_drawn 37 = .ok (.ireturn, 1) := by decide +kernel
theorem dX11_drawn_38 : decode cX11_drawn 38 = .ok (.lload_n 2, 1) := by decide +kernel
theorem dX11_drawn_39 : decode cX11_drawn 39 = .ok (.lstore 4, 2) := by decide +kernel
theorem dX11_drawn_41 : decode cX11_drawn 41 = .ok (.iconst 0, 1) := by decide +kernel
theorem dX11_drawn_42 : decode cX11_drawn 42 = .ok (.istore 6, 2) := by decide +kernel
theorem dX11_drawn_44 : decode cX11_drawn 44 = .ok (.iload 6, 2) := by decide +kernel
theorem dX11_drawn_46 : decode cX11_drawn 46 = .ok (.iload_n 1, 1) := by decide +kernel
theorem dX11_drawn_47 : decode cX11_drawn 47 = .ok (.if_icmp .ge 75, 3) := by decide +kernel
theorem dX11_drawn_50 : decode cX11_drawn 50 = .ok (.iconst 0, 1) := by decide +kernel
theorem dX11_drawn_51 : decode cX11_drawn 51 = .ok (.istore 7, 2) := by decide +kernel
theorem dX11_drawn_53 : decode cX11_drawn 53 = .ok (.iload 7, 2) := by decide +kernel
theorem dX11_drawn_55 : decode cX11_drawn 55 = .ok (.aload_n 0, 1) := by decide +kernel
theorem dX11_drawn_56 : decode cX11_drawn 56 = .ok (.getfield 289, 3) := by decide +kernel
theorem dX11_drawn_59 : decode cX11_drawn 59 = .ok (.if_icmp .ge 53, 3) := by decide +kernel
theorem dX11_drawn_62 : decode cX11_drawn 62 = .ok (.lload 4, 2) := by decide +kernel
theorem dX11_drawn_64 : decode cX11_drawn 64 = .ok (.ldc2_w 349, 3) := by decide +kernel
theorem dX11_drawn_67 : decode cX11_drawn 67 = .ok (.lmul, 1) := by decide +kernel
theorem dX11_drawn_68 : decode cX11_drawn 68 = .ok (.ldc2_w 351, 3) := by decide +kernel
theorem dX11_drawn_71 : decode cX11_drawn 71 = .ok (.ladd, 1) := by decide +kernel
theorem dX11_drawn_72 : decode cX11_drawn 72 = .ok (.lstore 4, 2) := by decide +kernel
theorem dX11_drawn_74 : decode cX11_drawn 74 = .ok (.lload 4, 2) := by decide +kernel
theorem dX11_drawn_76 : decode cX11_drawn 76 = .ok (.bipush 33, 2) := by decide +kernel
theorem dX11_drawn_78 : decode cX11_drawn 78 = .ok (.lushr, 1) := by decide +kernel
theorem dX11_drawn_79 : decode cX11_drawn 79 = .ok (.ldc2_w 353, 3) := by decide +kernel
theorem dX11_drawn_82 : decode cX11_drawn 82 = .ok (.lrem, 1) := by decide +kernel
theorem dX11_drawn_83 : decode cX11_drawn 83 = .ok (.l2i, 1) := by decide +kernel
theorem dX11_drawn_84 : decode cX11_drawn 84 = .ok (.istore 8, 2) := by decide +kernel
theorem dX11_drawn_86 : decode cX11_drawn 86 = .ok (.aload_n 0, 1) := by decide +kernel
theorem dX11_drawn_87 : decode cX11_drawn 87 = .ok (.getfield 58, 3) := by decide +kernel
theorem dX11_drawn_90 : decode cX11_drawn 90 = .ok (.iload 7, 2) := by decide +kernel
theorem dX11_drawn_92 : decode cX11_drawn 92 = .ok (.iload 8, 2) := by decide +kernel
theorem dX11_drawn_94 : decode cX11_drawn 94 = .ok (.iconst 5, 1) := by decide +kernel
theorem dX11_drawn_95 : decode cX11_drawn 95 = .ok (.if_icmp .ne 8, 3) := by decide +kernel
theorem dX11_drawn_98 : decode cX11_drawn 98 = .ok (.bipush 9, 2) := by decide +kernel
theorem dX11_drawn_100 : decode cX11_drawn 100 = .ok (.goto 5, 3) := by decide +kernel
theorem dX11_drawn_103 : decode cX11_drawn 103 = .ok (.iload 8, 2) := by decide +kernel
theorem dX11_drawn_105 : decode cX11_drawn 105 = .ok (.iastore, 1) := by decide +kernel
theorem dX11_drawn_106 : decode cX11_drawn 106 = .ok (.iinc 7 1, 3) := by decide +kernel
theorem dX11_drawn_109 : decode cX11_drawn 109 = .ok (.goto (-56), 3) := by decide +kernel
theorem dX11_drawn_112 : decode cX11_drawn 112 = .ok (.aload_n 0, 1) := by decide +kernel
theorem dX11_drawn_113 : decode cX11_drawn 113 = .ok (.invokevirtual 346, 3) := by decide +kernel
theorem dX11_drawn_116 : decode cX11_drawn 116 = .ok (.iinc 6 1, 3) := by decide +kernel
theorem dX11_drawn_119 : decode cX11_drawn 119 = .ok (.goto (-75), 3) := by decide +kernel
theorem dX11_drawn_122 : decode cX11_drawn 122 = .ok (.aload_n 0, 1) := by decide +kernel
theorem dX11_drawn_123 : decode cX11_drawn 123 = .ok (.getfield 292, 3) := by decide +kernel
theorem dX11_drawn_126 : decode cX11_drawn 126 = .ok (.ireturn, 1) := by decide +kernel
theorem dX11_keep_0 : decode cX11_keep 0 = .ok (.iconst 0, 1) := by decide +kernel
theorem dX11_keep_1 : decode cX11_keep 1 = .ok (.istore_n 1, 1) := by decide +kernel
theorem dX11_keep_2 : decode cX11_keep 2 = .ok (.iload_n 1, 1) := by decide +kernel
theorem dX11_keep_3 : decode cX11_keep 3 = .ok (.bipush 6, 2) := by decide +kernel
theorem dX11_keep_5 : decode cX11_keep 5 = .ok (.if_icmp .ge 33, 3) := by decide +kernel
theorem dX11_keep_8 : decode cX11_keep 8 = .ok (.aload_n 0, 1) := by decide +kernel
theorem dX11_keep_9 : decode cX11_keep 9 = .ok (.getfield 98, 3) := by decide +kernel
theorem dX11_keep_12 : decode cX11_keep 12 = .ok (.iload_n 1, 1) := by decide +kernel
theorem dX11_keep_13 : decode cX11_keep 13 = .ok (.aload_n 0, 1) := by decide +kernel
theorem dX11_keep_14 : decode cX11_keep 14 = .ok (.getfield 58, 3) := by decide +kernel
theorem dX11_keep_17 : decode cX11_keep 17 = .ok (.iload_n 1, 1) := by decide +kernel
theorem dX11_keep_18 : decode cX11_keep 18 = .ok (.iaload, 1) := by decide +kernel
theorem dX11_keep_19 : decode cX11_keep 19 = .ok (.iastore, 1) := by decide +kernel
theorem dX11_keep_20 : decode cX11_keep 20 = .ok (.aload_n 0, 1) := by decide +kernel
theorem dX11_keep_21 : decode cX11_keep 21 = .ok (.getfield 101, 3) := by decide +kernel
theorem dX11_keep_24 : decode cX11_keep 24 = .ok (.iload_n 1, 1) := by decide +kernel
theorem dX11_keep_25 : decode cX11_keep 25 = .ok (.aload_n 0, 1) := by decide +kernel
theorem dX11_keep_26 : decode cX11_keep 26 = .ok (.getfield 55, 3) := by decide +kernel
theorem dX11_keep_29 : decode cX11_keep 29 = .ok (.iload_n 1, 1) := by decide +kernel
theorem dX11_keep_30 : decode cX11_keep 30 = .ok (.iaload, 1) := by decide +kernel
theorem dX11_keep_31 : decode cX11_keep 31 = .ok (.iastore, 1) := by decide +kernel
theorem dX11_keep_32 : decode cX11_keep 32 = .ok (.iinc 1 1, 3) := by decide +kernel
theorem dX11_keep_35 : decode cX11_keep 35 = .ok (.goto (-33), 3) := by decide +kernel
theorem dX11_keep_38 : decode cX11_keep 38 = .ok (.aload_n 0, 1) := by decide +kernel
theorem dX11_keep_39 : decode cX11_keep 39 = .ok (.iconst 0, 1) := by decide +kernel
theorem dX11_keep_40 : decode cX11_keep 40 = .ok (.putfield 355, 3) := by decide +kernel
theorem dX11_keep_43 : decode cX11_keep 43 = .ok (.return_, 1) := by decide +kernel
theorem dX11_putBack_0 : decode cX11_putBack 0 = .ok (.iconst 0, 1) := by decide +kernel
theorem dX11_putBack_1 : decode cX11_putBack 1 = .ok (.istore_n 1, 1) := by decide +kernel
theorem dX11_putBack_2 : decode cX11_putBack 2 = .ok (.iload_n 1, 1) := by decide +kernel
theorem dX11_putBack_3 : decode cX11_putBack 3 = .ok (.bipush 6, 2) := by decide +kernel
theorem dX11_putBack_5 : decode cX11_putBack 5 = .ok (.if_icmp .ge 33, 3) := by decide +kernel
theorem dX11_putBack_8 : decode cX11_putBack 8 = .ok (.aload_n 0, 1) := by decide +kernel
theorem dX11_putBack_9 : decode cX11_putBack 9 = .ok (.getfield 58, 3) := by decide +kernel
theorem dX11_putBack_12 : decode cX11_putBack 12 = .ok (.iload_n 1, 1) := by decide +kernel
theorem dX11_putBack_13 : decode cX11_putBack 13 = .ok (.aload_n 0, 1) := by decide +kernel
theorem dX11_putBack_14 : decode cX11_putBack 14 = .ok (.getfield 98, 3) := by decide +kernel
theorem dX11_putBack_17 : decode cX11_putBack 17 = .ok (.iload_n 1, 1) := by decide +kernel
theorem dX11_putBack_18 : decode cX11_putBack 18 = .ok (.iaload, 1) := by decide +kernel
theorem dX11_putBack_19 : decode cX11_putBack 19 = .ok (.iastore, 1) := by decide +kernel
theorem dX11_putBack_20 : decode cX11_putBack 20 = .ok (.aload_n 0, 1) := by decide +kernel
theorem dX11_putBack_21 : decode cX11_putBack 21 = .ok (.getfield 55, 3) := by decide +kernel
theorem dX11_putBack_24 : decode cX11_putBack 24 = .ok (.iload_n 1, 1) := by decide +kernel
theorem dX11_putBack_25 : decode cX11_putBack 25 = .ok (.aload_n 0, 1) := by decide +kernel
theorem dX11_putBack_26 : decode cX11_putBack 26 = .ok (.getfield 101, 3) := by decide +kernel
theorem dX11_putBack_29 : decode cX11_putBack 29 = .ok (.iload_n 1, 1) := by decide +kernel
theorem dX11_putBack_30 : decode cX11_putBack 30 = .ok (.iaload, 1) := by decide +kernel
theorem dX11_putBack_31 : decode cX11_putBack 31 = .ok (.iastore, 1) := by decide +kernel
theorem dX11_putBack_32 : decode cX11_putBack 32 = .ok (.iinc 1 1, 3) := by decide +kernel
theorem dX11_putBack_35 : decode cX11_putBack 35 = .ok (.goto (-33), 3) := by decide +kernel
theorem dX11_putBack_38 : decode cX11_putBack 38 = .ok (.return_, 1) := by decide +kernel
theorem dX11_offers_0 : decode cX11_offers 0 = .ok (.aload_n 0, 1) := by decide +kernel
theorem dX11_offers_1 : decode cX11_offers 1 = .ok (.getfield 355, 3) := by decide +kernel
theorem dX11_offers_4 : decode cX11_offers 4 = .ok (.ifCond .eq 12, 3) := by decide +kernel
theorem dX11_offers_7 : decode cX11_offers 7 = .ok (.iload_n 2, 1) := by decide +kernel
theorem dX11_offers_8 : decode cX11_offers 8 = .ok (.aload_n 0, 1) := by decide +kernel
theorem dX11_offers_9 : decode cX11_offers 9 = .ok (.getfield 358, 3) := by decide +kernel
theorem dX11_offers_12 : decode cX11_offers 12 = .ok (.if_icmp .gt 4, 3) := by decide +kernel
theorem dX11_offers_15 : decode cX11_offers 15 = .ok (.return_, 1) := by decide +kernel
theorem dX11_offers_16 : decode cX11_offers 16 = .ok (.aload_n 0, 1) := by decide +kernel
theorem dX11_offers_17 : decode cX11_offers 17 = .ok (.iconst 1, 1) := by decide +kernel
theorem dX11_offers_18 : decode cX11_offers 18 = .ok (.putfield 355, 3) := by decide +kernel
theorem dX11_offers_21 : decode cX11_offers 21 = .ok (.aload_n 0, 1) := by decide +kernel
theorem dX11_offers_22 : decode cX11_offers 22 = .ok (.iload_n 1, 1) := by decide +kernel
theorem dX11_offers_23 : decode cX11_offers 23 = .ok (.putfield 361, 3) := by decide +kernel
theorem dX11_offers_26 : decode cX11_offers 26 = .ok (.aload_n 0, 1) := by decide +kernel
theorem dX11_offers_27 : decode cX11_offers 27 = .ok (.iload_n 2, 1) := by decide +kernel
theorem dX11_offers_28 : decode cX11_offers 28 = .ok (.putfield 358, 3) := by decide +kernel
theorem dX11_offers_31 : decode cX11_offers 31 = .ok (.return_, 1) := by decide +kernel
theorem dX11_goPuts_0 : decode cX11_goPuts 0 = .ok (.iload_n 1, 1) := by decide +kernel
theorem dX11_goPuts_1 : decode cX11_goPuts 1 = .ok (.aload_n 0, 1) := by decide +kernel
theorem dX11_goPuts_2 : decode cX11_goPuts 2 = .ok (.getfield 289, 3) := by decide +kernel
theorem dX11_goPuts_5 : decode cX11_goPuts 5 = .ok (.if_icmp .ne 34, 3) := by decide +kernel
theorem dX11_goPuts_8 : decode cX11_goPuts 8 = .ok (.aload_n 0, 1) := by decide +kernel
theorem dX11_goPuts_9 : decode cX11_goPuts 9 = .ok (.aload_n 0, 1) := by decide +kernel
theorem dX11_goPuts_10 : decode cX11_goPuts 10 = .ok (.getfield 292, 3) := by decide +kernel
theorem dX11_goPuts_13 : decode cX11_goPuts 13 = .ok (.invokevirtual 338, 3) := by decide +kernel
theorem dX11_goPuts_16 : decode cX11_goPuts 16 = .ok (.aload_n 0, 1) := by decide +kernel
theorem dX11_goPuts_17 : decode cX11_goPuts 17 = .ok (.getfield 317, 3) := by decide +kernel
theorem dX11_goPuts_20 : decode cX11_goPuts 20 = .ok (.iconst (-1), 1) := by decide +kernel
theorem dX11_goPuts_21 : decode cX11_goPuts 21 = .ok (.if_icmp .ne 17, 3) := by decide +kernel
theorem dX11_goPuts_24 : decode cX11_goPuts 24 = .ok (.aload_n 0, 1) := by decide +kernel
theorem dX11_goPuts_25 : decode cX11_goPuts 25 = .ok (.iload_n 2, 1) := by decide +kernel
theorem dX11_goPuts_26 : decode cX11_goPuts 26 = .ok (.aload_n 0, 1) := by decide +kernel
theorem dX11_goPuts_27 : decode cX11_goPuts 27 = .ok (.iload_n 3, 1) := by decide +kernel
theorem dX11_goPuts_28 : decode cX11_goPuts 28 = .ok (.aload_n 0, 1) := by decide +kernel
theorem dX11_goPuts_29 : decode cX11_goPuts 29 = .ok (.getfield 292, 3) := by decide +kernel
theorem dX11_goPuts_32 : decode cX11_goPuts 32 = .ok (.invokevirtual 364, 3) := by decide +kernel
theorem dX11_goPuts_35 : decode cX11_goPuts 35 = .ok (.invokevirtual 367, 3) := by decide +kernel
theorem dX11_goPuts_38 : decode cX11_goPuts 38 = .ok (.return_, 1) := by decide +kernel
theorem dX11_goPuts_39 : decode cX11_goPuts 39 = .ok (.iconst 0, 1) := by decide +kernel
theorem dX11_goPuts_40 : decode cX11_goPuts 40 = .ok (.istore 4, 2) := by decide +kernel
theorem dX11_goPuts_42 : decode cX11_goPuts 42 = .ok (.iload 4, 2) := by decide +kernel
theorem dX11_goPuts_44 : decode cX11_goPuts 44 = .ok (.iconst 5, 1) := by decide +kernel
theorem dX11_goPuts_45 : decode cX11_goPuts 45 = .ok (.if_icmp .ge 56, 3) := by decide +kernel
theorem dX11_goPuts_48 : decode cX11_goPuts 48 = .ok (.aload_n 0, 1) := by decide +kernel
theorem dX11_goPuts_49 : decode cX11_goPuts 49 = .ok (.getfield 43, 3) := by decide +kernel
theorem dX11_goPuts_52 : decode cX11_goPuts 52 = .ok (.bipush 8, 2) := by decide +kernel
theorem dX11_goPuts_54 : decode cX11_goPuts 54 = .ok (.iload_n 1, 1) := by decide +kernel
theorem dX11_goPuts_55 : decode cX11_goPuts 55 = .ok (.imul, 1) := by decide +kernel
theorem dX11_goPuts_56 : decode cX11_goPuts 56 = .ok (.iload 4, 2) := by decide +kernel
theorem dX11_goPuts_58 : decode cX11_goPuts 58 = .ok (.iadd, 1) := by decide +kernel
theorem dX11_goPuts_59 : decode cX11_goPuts 59 = .ok (.iaload, 1) := by decide +kernel
theorem dX11_goPuts_60 : decode cX11_goPuts 60 = .ok (.aload_n 0, 1) := by decide +kernel
theorem dX11_goPuts_61 : decode cX11_goPuts 61 = .ok (.getfield 49, 3) := by decide +kernel
theorem dX11_goPuts_64 : decode cX11_goPuts 64 = .ok (.iconst 0, 1) := by decide +kernel
theorem dX11_goPuts_65 : decode cX11_goPuts 65 = .ok (.iaload, 1) := by decide +kernel
theorem dX11_goPuts_66 : decode cX11_goPuts 66 = .ok (.if_icmp .ge 6, 3) := by decide +kernel
theorem dX11_goPuts_69 : decode cX11_goPuts 69 = .ok (.goto 26, 3) := by decide +kernel
theorem dX11_goPuts_72 : decode cX11_goPuts 72 = .ok (.aload_n 0, 1) := by decide +kernel
theorem dX11_goPuts_73 : decode cX11_goPuts 73 = .ok (.getfield 58, 3) := by decide +kernel
theorem dX11_goPuts_76 : decode cX11_goPuts 76 = .ok (.iload_n 1, 1) := by decide +kernel
theorem dX11_goPuts_77 : decode cX11_goPuts 77 = .ok (.iload 4, 2) := by decide +kernel
theorem dX11_goPuts_79 : decode cX11_goPuts 79 = .ok (.iastore, 1) := by decide +kernel
theorem dX11_goPuts_80 : decode cX11_goPuts 80 = .ok (.aload_n 0, 1) := by decide +kernel
theorem dX11_goPuts_81 : decode cX11_goPuts 81 = .ok (.iload_n 1, 1) := by decide +kernel
theorem dX11_goPuts_82 : decode cX11_goPuts 82 = .ok (.iconst 1, 1) := by decide +kernel
theorem dX11_goPuts_83 : decode cX11_goPuts 83 = .ok (.iadd, 1) := by decide +kernel
theorem dX11_goPuts_84 : decode cX11_goPuts 84 = .ok (.bipush 10, 2) := by decide +kernel
theorem dX11_goPuts_86 : decode cX11_goPuts 86 = .ok (.iload_n 2, 1) := by decide +kernel
theorem dX11_goPuts_87 : decode cX11_goPuts 87 = .ok (.imul, 1) := by decide +kernel
theorem dX11_goPuts_88 : decode cX11_goPuts 88 = .ok (.iload 4, 2) := by decide +kernel
theorem dX11_goPuts_90 : decode cX11_goPuts 90 = .ok (.iadd, 1) := by decide +kernel
theorem dX11_goPuts_91 : decode cX11_goPuts 91 = .ok (.iload_n 3, 1) := by decide +kernel
theorem dX11_goPuts_92 : decode cX11_goPuts 92 = .ok (.invokevirtual 371, 3) := by decide +kernel
theorem dX11_goPuts_95 : decode cX11_goPuts 95 = .ok (.iinc 4 1, 3) := by decide +kernel
theorem dX11_goPuts_98 : decode cX11_goPuts 98 = .ok (.goto (-56), 3) := by decide +kernel
theorem dX11_goPuts_101 : decode cX11_goPuts 101 = .ok (.aload_n 0, 1) := by decide +kernel
theorem dX11_goPuts_102 : decode cX11_goPuts 102 = .ok (.getfield 58, 3) := by decide +kernel
theorem dX11_goPuts_105 : decode cX11_goPuts 105 = .ok (.iload_n 1, 1) := by decide +kernel
theorem dX11_goPuts_106 : decode cX11_goPuts 106 = .ok (.bipush 9, 2) := by decide +kernel
theorem dX11_goPuts_108 : decode cX11_goPuts 108 = .ok (.iastore, 1) := by decide +kernel
theorem dX11_goPuts_109 : decode cX11_goPuts 109 = .ok (.aload_n 0, 1) := by decide +kernel
theorem dX11_goPuts_110 : decode cX11_goPuts 110 = .ok (.iload_n 1, 1) := by decide +kernel
theorem dX11_goPuts_111 : decode cX11_goPuts 111 = .ok (.iconst 1, 1) := by decide +kernel
theorem dX11_goPuts_112 : decode cX11_goPuts 112 = .ok (.iadd, 1) := by decide +kernel
theorem dX11_goPuts_113 : decode cX11_goPuts 113 = .ok (.bipush 10, 2) := by decide +kernel
theorem dX11_goPuts_115 : decode cX11_goPuts 115 = .ok (.iload_n 2, 1) := by decide +kernel
theorem dX11_goPuts_116 : decode cX11_goPuts 116 = .ok (.imul, 1) := by decide +kernel
theorem dX11_goPuts_117 : decode cX11_goPuts 117 = .ok (.bipush 9, 2) := by decide +kernel
theorem dX11_goPuts_119 : decode cX11_goPuts 119 = .ok (.iadd, 1) := by decide +kernel
theorem dX11_goPuts_120 : decode cX11_goPuts 120 = .ok (.iload_n 3, 1) := by decide +kernel
theorem dX11_goPuts_121 : decode cX11_goPuts 121 = .ok (.invokevirtual 371, 3) := by decide +kernel
theorem dX11_goPuts_124 : decode cX11_goPuts 124 = .ok (.return_, 1) := by decide +kernel
theorem dX11_puts_0 : decode cX11_puts 0 = .ok (.aload_n 0, 1) := by decide +kernel
theorem dX11_puts_1 : decode cX11_puts 1 = .ok (.iconst 0, 1) := by decide +kernel
theorem dX11_puts_2 : decode cX11_puts 2 = .ok (.putfield 119, 3) := by decide +kernel
theorem dX11_puts_5 : decode cX11_puts 5 = .ok (.aload_n 0, 1) := by decide +kernel
theorem dX11_puts_6 : decode cX11_puts 6 = .ok (.getfield 289, 3) := by decide +kernel
theorem dX11_puts_9 : decode cX11_puts 9 = .ok (.ifCond .eq 32, 3) := by decide +kernel
theorem dX11_puts_12 : decode cX11_puts 12 = .ok (.aload_n 0, 1) := by decide +kernel
theorem dX11_puts_13 : decode cX11_puts 13 = .ok (.getfield 289, 3) := by decide +kernel
theorem dX11_puts_16 : decode cX11_puts 16 = .ok (.bipush 6, 2) := by decide +kernel
theorem dX11_puts_18 : decode cX11_puts 18 = .ok (.if_icmp .eq 23, 3) := by decide +kernel
theorem dX11_puts_21 : decode cX11_puts 21 = .ok (.iload_n 1, 1) := by decide +kernel
theorem dX11_puts_22 : decode cX11_puts 22 = .ok (.i2l, 1) := by decide +kernel
theorem dX11_puts_23 : decode cX11_puts 23 = .ok (.lconst 0, 1) := by decide +kernel
theorem dX11_puts_24 : decode cX11_puts 24 = .ok (.lconst 1, 1) := by decide +kernel
theorem dX11_puts_25 : decode cX11_puts 25 = .ok (.invokestatic 240, 3) := by decide +kernel
theorem dX11_puts_28 : decode cX11_puts 28 = .ok (.ifCond .eq 13, 3) := by decide +kernel
theorem dX11_puts_31 : decode cX11_puts 31 = .ok (.iload_n 2, 1) := by decide +kernel
theorem dX11_puts_32 : decode cX11_puts 32 = .ok (.i2l, 1) := by decide +kernel
theorem dX11_puts_33 : decode cX11_puts 33 = .ok (.lconst 0, 1) := by decide +kernel
theorem dX11_puts_34 : decode cX11_puts 34 = .ok (.lconst 1, 1) := by decide +kernel
theorem dX11_puts_35 : decode cX11_puts 35 = .ok (.invokestatic 240, 3) := by decide +kernel
theorem dX11_puts_38 : decode cX11_puts 38 = .ok (.ifCond .ne 7, 3) := by decide +kernel
theorem dX11_puts_41 : decode cX11_puts 41 = .ok (.ldc_w 337, 3) := by decide +kernel
theorem dX11_puts_44 : decode cX11_puts 44 = .ok (.ireturn, 1) := by decide +kernel
theorem dX11_puts_45 : decode cX11_puts 45 = .ok (.aload_n 0, 1) := by decide +kernel
theorem dX11_puts_46 : decode cX11_puts 46 = .ok (.invokevirtual 375, 3) := by decide +kernel
theorem dX11_puts_49 : decode cX11_puts 49 = .ok (.aload_n 0, 1) := by decide +kernel
theorem dX11_puts_50 : decode cX11_puts 50 = .ok (.iconst 0, 1) := by decide +kernel
theorem dX11_puts_51 : decode cX11_puts 51 = .ok (.iconst 0, 1) := by decide +kernel
theorem dX11_puts_52 : decode cX11_puts 52 = .ok (.iload_n 1, 1) := by decide +kernel
theorem dX11_puts_53 : decode cX11_puts 53 = .ok (.invokevirtual 371, 3) := by decide +kernel
theorem dX11_puts_56 : decode cX11_puts 56 = .ok (.aload_n 0, 1) := by decide +kernel
theorem dX11_puts_57 : decode cX11_puts 57 = .ok (.invokevirtual 378, 3) := by decide +kernel
theorem dX11_puts_60 : decode cX11_puts 60 = .ok (.iload_n 2, 1) := by decide +kernel
theorem dX11_puts_61 : decode cX11_puts 61 = .ok (.ifCond .ne 10, 3) := by decide +kernel
theorem dX11_puts_64 : decode cX11_puts 64 = .ok (.aload_n 0, 1) := by decide +kernel
theorem dX11_puts_65 : decode cX11_puts 65 = .ok (.getfield 361, 3) := by decide +kernel
theorem dX11_puts_68 : decode cX11_puts 68 = .ok (.goto 7, 3) := by decide +kernel
theorem dX11_puts_71 : decode cX11_puts 71 = .ok (.aload_n 0, 1) := by decide +kernel
theorem dX11_puts_72 : decode cX11_puts 72 = .ok (.getfield 358, 3) := by decide +kernel
theorem dX11_puts_75 : decode cX11_puts 75 = .ok (.ireturn, 1) := by decide +kernel
theorem dX11_goOrders_0 : decode cX11_goOrders 0 = .ok (.iload_n 1, 1) := by decide +kernel
theorem dX11_goOrders_1 : decode cX11_goOrders 1 = .ok (.aload_n 0, 1) := by decide +kernel
theorem dX11_goOrders_2 : decode cX11_goOrders 2 = .ok (.getfield 289, 3) := by decide +kernel
theorem dX11_goOrders_5 : decode cX11_goOrders 5 = .ok (.if_icmp .ne 27, 3) := by decide +kernel
theorem dX11_goOrders_8 : decode cX11_goOrders 8 = .ok (.aload_n 0, 1) := by decide +kernel
theorem dX11_goOrders_9 : decode cX11_goOrders 9 = .ok (.aload_n 0, 1) := by decide +kernel
theorem dX11_goOrders_10 : decode cX11_goOrders 10 = .ok (.getfield 292, 3) := by decide +kernel
theorem dX11_goOrders_13 : decode cX11_goOrders 13 = .ok (.invokevirtual 338, 3) := by decide +kernel
theorem dX11_goOrders_16 : decode cX11_goOrders 16 = .ok (.aload_n 0, 1) := by decide +kernel
theorem dX11_goOrders_17 : decode cX11_goOrders 17 = .ok (.iload_n 3, 1) := by decide +kernel
theorem dX11_goOrders_18 : decode cX11_goOrders 18 = .ok (.aload_n 0, 1) := by decide +kernel
theorem dX11_goOrders_19 : decode cX11_goOrders 19 = .ok (.iload 4, 2) := by decide +kernel
theorem dX11_goOrders_21 : decode cX11_goOrders 21 = .ok (.aload_n 0, 1) := by decide +kernel
theorem dX11_goOrders_22 : decode cX11_goOrders 22 = .ok (.getfield 292, 3) := by decide +kernel
theorem dX11_goOrders_25 : decode cX11_goOrders 25 = .ok (.invokevirtual 364, 3) := by decide +kernel
theorem dX11_goOrders_28 : decode cX11_goOrders 28 = .ok (.invokevirtual 367, 3) := by decide +kernel
theorem dX11_goOrders_31 : decode cX11_goOrders 31 = .ok (.return_, 1) := by decide +kernel
theorem dX11_goOrders_32 : decode cX11_goOrders 32 = .ok (.iconst 0, 1) := by decide +kernel
theorem dX11_goOrders_33 : decode cX11_goOrders 33 = .ok (.istore 5, 2) := by decide +kernel
theorem dX11_goOrders_35 : decode cX11_goOrders 35 = .ok (.iload 5, 2) := by decide +kernel
theorem dX11_goOrders_37 : decode cX11_goOrders 37 = .ok (.aload_n 0, 1) := by decide +kernel
theorem dX11_goOrders_38 : decode cX11_goOrders 38 = .ok (.getfield 289, 3) := by decide +kernel
theorem dX11_goOrders_41 : decode cX11_goOrders 41 = .ok (.if_icmp .ge 51, 3) := by decide +kernel
theorem dX11_goOrders_44 : decode cX11_goOrders 44 = .ok (.iload_n 2, 1) := by decide +kernel
theorem dX11_goOrders_45 : decode cX11_goOrders 45 = .ok (.iload 5, 2) := by decide +kernel
theorem dX11_goOrders_47 : decode cX11_goOrders 47 = .ok (.invokestatic 263, 3) := by decide +kernel
theorem dX11_goOrders_50 : decode cX11_goOrders 50 = .ok (.ifCond .eq 6, 3) := by decide +kernel
theorem dX11_goOrders_53 : decode cX11_goOrders 53 = .ok (.goto 33, 3) := by decide +kernel
theorem dX11_goOrders_56 : decode cX11_goOrders 56 = .ok (.aload_n 0, 1) := by decide +kernel
theorem dX11_goOrders_57 : decode cX11_goOrders 57 = .ok (.getfield 55, 3) := by decide +kernel
theorem dX11_goOrders_60 : decode cX11_goOrders 60 = .ok (.iload_n 1, 1) := by decide +kernel
theorem dX11_goOrders_61 : decode cX11_goOrders 61 = .ok (.iload 5, 2) := by decide +kernel
theorem dX11_goOrders_63 : decode cX11_goOrders 63 = .ok (.iastore, 1) := by decide +kernel
theorem dX11_goOrders_64 : decode cX11_goOrders 64 = .ok (.aload_n 0, 1) := by decide +kernel
theorem dX11_goOrders_65 : decode cX11_goOrders 65 = .ok (.iload_n 1, 1) := by decide +kernel
theorem dX11_goOrders_66 : decode cX11_goOrders 66 = .ok (.iconst 1, 1) := by decide +kernel
theorem dX11_goOrders_67 : decode cX11_goOrders 67 = .ok (.iadd, 1) := by decide +kernel
theorem dX11_goOrders_68 : decode cX11_goOrders 68 = .ok (.iload_n 2, 1) := by decide +kernel
theorem dX11_goOrders_69 : decode cX11_goOrders 69 = .ok (.iconst 1, 1) := by decide +kernel
theorem dX11_goOrders_70 : decode cX11_goOrders 70 = .ok (.iload 5, 2) := by decide +kernel
theorem dX11_goOrders_72 : decode cX11_goOrders 72 = .ok (.ishl, 1) := by decide +kernel
theorem dX11_goOrders_73 : decode cX11_goOrders 73 = .ok (.ior, 1) := by decide +kernel
theorem dX11_goOrders_74 : decode cX11_goOrders 74 = .ok (.bipush 10, 2) := by decide +kernel
theorem dX11_goOrders_76 : decode cX11_goOrders 76 = .ok (.iload_n 3, 1) := by decide +kernel
theorem dX11_goOrders_77 : decode cX11_goOrders 77 = .ok (.imul, 1) := by decide +kernel
theorem dX11_goOrders_78 : decode cX11_goOrders 78 = .ok (.iload 5, 2) := by decide +kernel
theorem dX11_goOrders_80 : decode cX11_goOrders 80 = .ok (.iadd, 1) := by decide +kernel
theorem dX11_goOrders_81 : decode cX11_goOrders 81 = .ok (.iload 4, 2) := by decide +kernel
theorem dX11_goOrders_83 : decode cX11_goOrders 83 = .ok (.invokevirtual 381, 3) := by decide +kernel
theorem dX11_goOrders_86 : decode cX11_goOrders 86 = .ok (.iinc 5 1, 3) := by decide +kernel
theorem dX11_goOrders_89 : decode cX11_goOrders 89 = .ok (.goto (-54), 3) := by decide +kernel
theorem dX11_goOrders_92 : decode cX11_goOrders 92 = .ok (.return_, 1) := by decide +kernel
theorem dX11_orders_0 : decode cX11_orders 0 = .ok (.aload_n 0, 1) := by decide +kernel
theorem dX11_orders_1 : decode cX11_orders 1 = .ok (.iconst 0, 1) := by decide +kernel
theorem dX11_orders_2 : decode cX11_orders 2 = .ok (.putfield 119, 3) := by decide +kernel
theorem dX11_orders_5 : decode cX11_orders 5 = .ok (.aload_n 0, 1) := by decide +kernel
theorem dX11_orders_6 : decode cX11_orders 6 = .ok (.getfield 289, 3) := by decide +kernel
theorem dX11_orders_9 : decode cX11_orders 9 = .ok (.ifCond .eq 23, 3) := by decide +kernel
theorem dX11_orders_12 : decode cX11_orders 12 = .ok (.iload_n 1, 1) := by decide +kernel
theorem dX11_orders_13 : decode cX11_orders 13 = .ok (.i2l, 1) := by decide +kernel
theorem dX11_orders_14 : decode cX11_orders 14 = .ok (.lconst 0, 1) := by decide +kernel
theorem dX11_orders_15 : decode cX11_orders 15 = .ok (.lconst 1, 1) := by decide +kernel
theorem dX11_orders_16 : decode cX11_orders 16 = .ok (.invokestatic 240, 3) := by decide +kernel
theorem dX11_orders_19 : decode cX11_orders 19 = .ok (.ifCond .eq 13, 3) := by decide +kernel
theorem dX11_orders_22 : decode cX11_orders 22 = .ok (.iload_n 2, 1) := by decide +kernel
theorem dX11_orders_23 : decode cX11_orders 23 = .ok (.i2l, 1) := by decide +kernel
theorem dX11_orders_24 : decode cX11_orders 24 = .ok (.lconst 0, 1) := by decide +kernel
theorem dX11_orders_25 : decode cX11_orders 25 = .ok (.lconst 1, 1) := by decide +kernel
theorem dX11_orders_26 : decode cX11_orders 26 = .ok (.invokestatic 240, 3) := by decide +kernel
theorem dX11_orders_29 : decode cX11_orders 29 = .ok (.ifCond .ne 7, 3) := by decide +kernel
theorem dX11_orders_32 : decode cX11_orders 32 = .ok (.ldc_w 337, 3) := by decide +kernel
theorem dX11_orders_35 : decode cX11_orders 35 = .ok (.ireturn, 1) := by decide +kernel
theorem dX11_orders_36 : decode cX11_orders 36 = .ok (.aload_n 0, 1) := by decide +kernel
theorem dX11_orders_37 : decode cX11_orders 37 = .ok (.invokevirtual 375, 3) := by decide +kernel
theorem dX11_orders_40 : decode cX11_orders 40 = .ok (.aload_n 0, 1) := by decide +kernel
theorem dX11_orders_41 : decode cX11_orders 41 = .ok (.iconst 0, 1) := by decide +kernel
theorem dX11_orders_42 : decode cX11_orders 42 = .ok (.iconst 0, 1) := by decide +kernel
theorem dX11_orders_43 : decode cX11_orders 43 = .ok (.iconst 0, 1) := by decide +kernel
theorem dX11_orders_44 : decode cX11_orders 44 = .ok (.iload_n 1, 1) := by decide +kernel
theorem dX11_orders_45 : decode cX11_orders 45 = .ok (.invokevirtual 381, 3) := by decide +kernel
theorem dX11_orders_48 : decode cX11_orders 48 = .ok (.aload_n 0, 1) := by decide +kernel
theorem dX11_orders_49 : decode cX11_orders 49 = .ok (.invokevirtual 378, 3) := by decide +kernel
theorem dX11_orders_52 : decode cX11_orders 52 = .ok (.iload_n 2, 1) := by decide +kernel
theorem dX11_orders_53 : decode cX11_orders 53 = .ok (.ifCond .ne 10, 3) := by decide +kernel
theorem dX11_orders_56 : decode cX11_orders 56 = .ok (.aload_n 0, 1) := by decide +kernel
theorem dX11_orders_57 : decode cX11_orders 57 = .ok (.getfield 361, 3) := by decide +kernel
theorem dX11_orders_60 : decode cX11_orders 60 = .ok (.goto 7, 3) := by decide +kernel
theorem dX11_orders_63 : decode cX11_orders 63 = .ok (.aload_n 0, 1) := by decide +kernel
theorem dX11_orders_64 : decode cX11_orders 64 = .ok (.getfield 358, 3) := by decide +kernel
theorem dX11_orders_67 : decode cX11_orders 67 = .ok (.ireturn, 1) := by decide +kernel
theorem dX11_bestFor_0 : decode cX11_bestFor 0 = .ok (.aload_n 0, 1) := by decide +kernel
theorem dX11_bestFor_1 : decode cX11_bestFor 1 = .ok (.iconst 0, 1) := by decide +kernel
theorem dX11_bestFor_2 : decode cX11_bestFor 2 = .ok (.putfield 119, 3) := by decide +kernel
theorem dX11_bestFor_5 : decode cX11_bestFor 5 = .ok (.aload_n 0, 1) := by decide +kernel
theorem dX11_bestFor_6 : decode cX11_bestFor 6 = .ok (.iload_n 1, 1) := by decide +kernel
theorem dX11_bestFor_7 : decode cX11_bestFor 7 = .ok (.invokevirtual 301, 3) := by decide +kernel
theorem dX11_bestFor_10 : decode cX11_bestFor 10 = .ok (.ifCond .eq 26, 3) := by decide +kernel
theorem dX11_bestFor_13 : decode cX11_bestFor 13 = .ok (.aload_n 0, 1) := by decide +kernel
theorem dX11_bestFor_14 : decode cX11_bestFor 14 = .ok (.iload_n 2, 1) := by decide +kernel
theorem dX11_bestFor_15 : decode cX11_bestFor 15 = .ok (.invokevirtual 301, 3) := by decide +kernel
theorem dX11_bestFor_18 : decode cX11_bestFor 18 = .ok (.ifCond .eq 18, 3) := by decide +kernel
theorem dX11_bestFor_21 : decode cX11_bestFor 21 = .ok (.iload_n 1, 1) := by decide +kernel
theorem dX11_bestFor_22 : decode cX11_bestFor 22 = .ok (.iload_n 2, 1) := by decide +kernel
theorem dX11_bestFor_23 : decode cX11_bestFor 23 = .ok (.if_icmp .eq 13, 3) := by decide +kernel
theorem dX11_bestFor_26 : decode cX11_bestFor 26 = .ok (.iload_n 3, 1) := by decide +kernel
theorem dX11_bestFor_27 : decode cX11_bestFor 27 = .ok (.i2l, 1) := by decide +kernel
theorem dX11_bestFor_28 : decode cX11_bestFor 28 = .ok (.lconst 0, 1) := by decide +kernel
theorem dX11_bestFor_29 : decode cX11_bestFor 29 = .ok (.lconst 1, 1) := by decide +kernel
theorem dX11_bestFor_30 : decode cX11_bestFor 30 = .ok (.invokestatic 240, 3) := by decide +kernel
theorem dX11_bestFor_33 : decode cX11_bestFor 33 = .ok (.ifCond .ne 7, 3) := by decide +kernel
theorem dX11_bestFor_36 : decode cX11_bestFor 36 = .ok (.ldc_w 337, 3) := by decide +kernel
theorem dX11_bestFor_39 : decode cX11_bestFor 39 = .ok (.ireturn, 1) := by decide +kernel
theorem dX11_bestFor_40 : decode cX11_bestFor 40 = .ok (.aload_n 0, 1) := by decide +kernel
theorem dX11_bestFor_41 : decode cX11_bestFor 41 = .ok (.invokevirtual 375, 3) := by decide +kernel
theorem dX11_bestFor_44 : decode cX11_bestFor 44 = .ok (.iconst 0, 1) := by decide +kernel
theorem dX11_bestFor_45 : decode cX11_bestFor 45 = .ok (.istore 4, 2) := by decide +kernel
theorem dX11_bestFor_47 : decode cX11_bestFor 47 = .ok (.iload 4, 2) := by decide +kernel
theorem dX11_bestFor_49 : decode cX11_bestFor 49 = .ok (.iconst 5, 1) := by decide +kernel
theorem dX11_bestFor_50 : decode cX11_bestFor 50 = .ok (.if_icmp .gt 55, 3) := by decide +kernel
theorem dX11_bestFor_53 : decode cX11_bestFor 53 = .ok (.aload_n 0, 1) := by decide +kernel
theorem dX11_bestFor_54 : decode cX11_bestFor 54 = .ok (.getfield 58, 3) := by decide +kernel
theorem dX11_bestFor_57 : decode cX11_bestFor 57 = .ok (.iload_n 1, 1) := by decide +kernel
theorem dX11_bestFor_58 : decode cX11_bestFor 58 = .ok (.iload 4, 2) := by decide +kernel
theorem dX11_bestFor_60 : decode cX11_bestFor 60 = .ok (.iconst 5, 1) := by decide +kernel
theorem dX11_bestFor_61 : decode cX11_bestFor 61 = .ok (.if_icmp .ne 8, 3) := by decide +kernel
theorem dX11_bestFor_64 : decode cX11_bestFor 64 = .ok (.bipush 9, 2) := by decide +kernel
theorem dX11_bestFor_66 : decode cX11_bestFor 66 = .ok (.goto 5, 3) := by decide +kernel
theorem dX11_bestFor_69 : decode cX11_bestFor 69 = .ok (.iload 4, 2) := by decide +kernel
theorem dX11_bestFor_71 : decode cX11_bestFor 71 = .ok (.iastore, 1) := by decide +kernel
theorem dX11_bestFor_72 : decode cX11_bestFor 72 = .ok (.aload_n 0, 1) := by decide +kernel
theorem dX11_bestFor_73 : decode cX11_bestFor 73 = .ok (.aload_n 0, 1) := by decide +kernel
theorem dX11_bestFor_74 : decode cX11_bestFor 74 = .ok (.getfield 292, 3) := by decide +kernel
theorem dX11_bestFor_77 : decode cX11_bestFor 77 = .ok (.invokevirtual 338, 3) := by decide +kernel
theorem dX11_bestFor_80 : decode cX11_bestFor 80 = .ok (.aload_n 0, 1) := by decide +kernel
theorem dX11_bestFor_81 : decode cX11_bestFor 81 = .ok (.aload_n 0, 1) := by decide +kernel
theorem dX11_bestFor_82 : decode cX11_bestFor 82 = .ok (.getfield 58, 3) := by decide +kernel
theorem dX11_bestFor_85 : decode cX11_bestFor 85 = .ok (.iload_n 1, 1) := by decide +kernel
theorem dX11_bestFor_86 : decode cX11_bestFor 86 = .ok (.iaload, 1) := by decide +kernel
theorem dX11_bestFor_87 : decode cX11_bestFor 87 = .ok (.aload_n 0, 1) := by decide +kernel
theorem dX11_bestFor_88 : decode cX11_bestFor 88 = .ok (.iload_n 2, 1) := by decide +kernel
theorem dX11_bestFor_89 : decode cX11_bestFor 89 = .ok (.aload_n 0, 1) := by decide +kernel
theorem dX11_bestFor_90 : decode cX11_bestFor 90 = .ok (.getfield 292, 3) := by decide +kernel
theorem dX11_bestFor_93 : decode cX11_bestFor 93 = .ok (.invokevirtual 332, 3) := by decide +kernel
theorem dX11_bestFor_96 : decode cX11_bestFor 96 = .ok (.invokevirtual 367, 3) := by decide +kernel
theorem dX11_bestFor_99 : decode cX11_bestFor 99 = .ok (.iinc 4 1, 3) := by decide +kernel
theorem dX11_bestFor_102 : decode cX11_bestFor 102 = .ok (.goto (-55), 3) := by decide +kernel
theorem dX11_bestFor_105 : decode cX11_bestFor 105 = .ok (.aload_n 0, 1) := by decide +kernel
theorem dX11_bestFor_106 : decode cX11_bestFor 106 = .ok (.invokevirtual 378, 3) := by decide +kernel
theorem dX11_bestFor_109 : decode cX11_bestFor 109 = .ok (.iload_n 3, 1) := by decide +kernel
theorem dX11_bestFor_110 : decode cX11_bestFor 110 = .ok (.ifCond .ne 10, 3) := by decide +kernel
theorem dX11_bestFor_113 : decode cX11_bestFor 113 = .ok (.aload_n 0, 1) := by decide +kernel
theorem dX11_bestFor_114 : decode cX11_bestFor 114 = .ok (.getfield 361, 3) := by decide +kernel
theorem dX11_bestFor_117 : decode cX11_bestFor 117 = .ok (.goto 7, 3) := by decide +kernel
theorem dX11_bestFor_120 : decode cX11_bestFor 120 = .ok (.aload_n 0, 1) := by decide +kernel
theorem dX11_bestFor_121 : decode cX11_bestFor 121 = .ok (.getfield 358, 3) := by decide +kernel
theorem dX11_bestFor_124 : decode cX11_bestFor 124 = .ok (.ireturn, 1) := by decide +kernel
theorem dX11_about_0 : decode cX11_about 0 = .ok (.aload_n 0, 1) := by decide +kernel
theorem dX11_about_1 : decode cX11_about 1 = .ok (.iconst 0, 1) := by decide +kernel
theorem dX11_about_2 : decode cX11_about 2 = .ok (.putfield 119, 3) := by decide +kernel
theorem dX11_about_5 : decode cX11_about 5 = .ok (.aload_n 0, 1) := by decide +kernel
theorem dX11_about_6 : decode cX11_about 6 = .ok (.getfield 289, 3) := by decide +kernel
theorem dX11_about_9 : decode cX11_about 9 = .ok (.ifCond .eq 28, 3) := by decide +kernel
theorem dX11_about_12 : decode cX11_about 12 = .ok (.iload_n 1, 1) := by decide +kernel
theorem dX11_about_13 : decode cX11_about 13 = .ok (.iconst (-1), 1) := by decide +kernel
theorem dX11_about_14 : decode cX11_about 14 = .ok (.if_icmp .eq 11, 3) := by decide +kernel
theorem dX11_about_17 : decode cX11_about 17 = .ok (.aload_n 0, 1) := by decide +kernel
theorem dX11_about_18 : decode cX11_about 18 = .ok (.iload_n 1, 1) := by decide +kernel
theorem dX11_about_19 : decode cX11_about 19 = .ok (.invokevirtual 301, 3) := by decide +kernel
theorem dX11_about_22 : decode cX11_about 22 = .ok (.ifCond .eq 15, 3) := by decide +kernel
theorem dX11_about_25 : decode cX11_about 25 = .ok (.iload_n 2, 1) := by decide +kernel
theorem dX11_about_26 : decode cX11_about 26 = .ok (.i2l, 1) := by decide +kernel
theorem dX11_about_27 : decode cX11_about 27 = .ok (.lconst 1, 1) := by decide +kernel
theorem dX11_about_28 : decode cX11_about 28 = .ok (.ldc2_w 344, 3) := by decide +kernel
theorem dX11_about_31 : decode cX11_about 31 = .ok (.invokestatic 240, 3) := by decide +kernel
theorem dX11_about_34 : decode cX11_about 34 = .ok (.ifCond .ne 7, 3) := by decide +kernel
theorem dX11_about_37 : decode cX11_about 37 = .ok (.ldc_w 337, 3) := by decide +kernel
theorem dX11_about_40 : decode cX11_about 40 = .ok (.ireturn, 1) := by decide +kernel
theorem dX11_about_41 : decode cX11_about 41 = .ok (.aload_n 0, 1) := by decide +kernel
theorem dX11_about_42 : decode cX11_about 42 = .ok (.invokevirtual 375, 3) := by decide +kernel
theorem dX11_about_45 : decode cX11_about 45 = .ok (.iconst 0, 1) := by decide +kernel
theorem dX11_about_46 : decode cX11_about 46 = .ok (.istore_n 3, 1) := by decide +kernel
theorem dX11_about_47 : decode cX11_about 47 = .ok (.iload_n 3, 1) := by decide +kernel
theorem dX11_about_48 : decode cX11_about 48 = .ok (.bipush 6, 2) := by decide +kernel
theorem dX11_about_50 : decode cX11_about 50 = .ok (.if_icmp .ge 16, 3) := by decide +kernel
theorem dX11_about_53 : decode cX11_about 53 = .ok (.aload_n 0, 1) := by decide +kernel
theorem dX11_about_54 : decode cX11_about 54 = .ok (.getfield 104, 3) := by decide +kernel
theorem dX11_about_57 : decode cX11_about 57 = .ok (.iload_n 3, 1) := by decide +kernel
theorem dX11_about_58 : decode cX11_about 58 = .ok (.iconst 0, 1) := by decide +kernel
theorem dX11_about_59 : decode cX11_about 59 = .ok (.iastore, 1) := by decide +kernel
theorem dX11_about_60 : decode cX11_about 60 = .ok (.iinc 3 1, 3) := by decide +kernel
theorem dX11_about_63 : decode cX11_about 63 = .ok (.goto (-16), 3) := by decide +kernel
theorem dX11_about_66 : decode cX11_about 66 = .ok (.iconst 0, 1) := by decide +kernel
theorem dX11_about_67 : decode cX11_about 67 = .ok (.istore_n 3, 1) := by decide +kernel
theorem dX11_about_68 : decode cX11_about 68 = .ok (.iload_n 3, 1) := by decide +kernel
theorem dX11_about_69 : decode cX11_about 69 = .ok (.iload_n 2, 1) := by decide +kernel
theorem dX11_about_70 : decode cX11_about 70 = .ok (.if_icmp .ge 114, 3) := by decide +kernel
theorem dX11_about_73 : decode cX11_about 73 = .ok (.aload_n 0, 1) := by decide +kernel
theorem dX11_about_74 : decode cX11_about 74 = .ok (.aload_n 0, 1) := by decide +kernel
theorem dX11_about_75 : decode cX11_about 75 = .ok (.getfield 292, 3) := by decide +kernel
theorem dX11_about_78 : decode cX11_about 78 = .ok (.iload_n 3, 1) := by decide +kernel
theorem dX11_about_79 : decode cX11_about 79 = .ok (.iadd, 1) := by decide +kernel
theorem dX11_about_80 : decode cX11_about 80 = .ok (.invokevirtual 338, 3) := by decide +kernel
theorem dX11_about_83 : decode cX11_about 83 = .ok (.iconst 0, 1) := by decide +kernel
theorem dX11_about_84 : decode cX11_about 84 = .ok (.istore 4, 2) := by decide +kernel
theorem dX11_about_86 : decode cX11_about 86 = .ok (.iload 4, 2) := by decide +kernel
theorem dX11_about_88 : decode cX11_about 88 = .ok (.aload_n 0, 1) := by decide +kernel
theorem dX11_about_89 : decode cX11_about 89 = .ok (.getfield 289, 3) := by decide +kernel
theorem dX11_about_92 : decode cX11_about 92 = .ok (.if_icmp .ge 31, 3) := by decide +kernel
theorem dX11_about_95 : decode cX11_about 95 = .ok (.aload_n 0, 1) := by decide +kernel
theorem dX11_about_96 : decode cX11_about 96 = .ok (.getfield 104, 3) := by decide +kernel
theorem dX11_about_99 : decode cX11_about 99 = .ok (.iload 4, 2) := by decide +kernel
theorem dX11_about_101 : decode cX11_about 101 = .ok (.dup2, 1) := by decide +kernel
theorem dX11_about_102 : decode cX11_about 102 = .ok (.iaload, 1) := by decide +kernel
theorem dX11_about_103 : decode cX11_about 103 = .ok (.aload_n 0, 1) := by decide +kernel
theorem dX11_about_104 : decode cX11_about 104 = .ok (.iload 4, 2) := by decide +kernel
theorem dX11_about_106 : decode cX11_about 106 = .ok (.aload_n 0, 1) := by decide +kernel
theorem dX11_about_107 : decode cX11_about 107 = .ok (.getfield 292, 3) := by decide +kernel
theorem dX11_about_110 : decode cX11_about 110 = .ok (.iload_n 3, 1) := by decide +kernel
theorem dX11_about_111 : decode cX11_about 111 = .ok (.iadd, 1) := by decide +kernel
theorem dX11_about_112 : decode cX11_about 112 = .ok (.invokevirtual 332, 3) := by decide +kernel
theorem dX11_about_115 : decode cX11_about 115 = .ok (.iadd, 1) := by decide +kernel
theorem dX11_about_116 : decode cX11_about 116 = .ok (.iastore, 1) := by decide +kernel
theorem dX11_about_117 : decode cX11_about 117 = .ok (.iinc 4 1, 3) := by decide +kernel
theorem dX11_about_120 : decode cX11_about 120 = .ok (.goto (-34), 3) := by decide +kernel
theorem dX11_about_123 : decode cX11_about 123 = .ok (.aload_n 0, 1) := by decide +kernel
theorem dX11_about_124 : decode cX11_about 124 = .ok (.getfield 55, 3) := by decide +kernel
theorem dX11_about_127 : decode cX11_about 127 = .ok (.iconst 0, 1) := by decide +kernel
theorem dX11_about_128 : decode cX11_about 128 = .ok (.iaload, 1) := by decide +kernel
theorem dX11_about_129 : decode cX11_about 129 = .ok (.istore 4, 2) := by decide +kernel
theorem dX11_about_131 : decode cX11_about 131 = .ok (.iconst 1, 1) := by decide +kernel
theorem dX11_about_132 : decode cX11_about 132 = .ok (.istore 5, 2) := by decide +kernel
theorem dX11_about_134 : decode cX11_about 134 = .ok (.iload 5, 2) := by decide +kernel
theorem dX11_about_136 : decode cX11_about 136 = .ok (.aload_n 0, 1) := by decide +kernel
theorem dX11_about_137 : decode cX11_about 137 = .ok (.getfield 289, 3) := by decide +kernel
theorem dX11_about_140 : decode cX11_about 140 = .ok (.if_icmp .ge 25, 3) := by decide +kernel
theorem dX11_about_143 : decode cX11_about 143 = .ok (.aload_n 0, 1) := by decide +kernel
theorem dX11_about_144 : decode cX11_about 144 = .ok (.getfield 55, 3) := by decide +kernel
theorem dX11_about_147 : decode cX11_about 147 = .ok (.iload 5, 2) := by decide +kernel
theorem dX11_about_149 : decode cX11_about 149 = .ok (.iconst 1, 1) := by decide +kernel
theorem dX11_about_150 : decode cX11_about 150 = .ok (.isub, 1) := by decide +kernel
theorem dX11_about_151 : decode cX11_about 151 = .ok (.aload_n 0, 1) := by decide +kernel
theorem dX11_about_152 : decode cX11_about 152 = .ok (.getfield 55, 3) := by decide +kernel
theorem dX11_about_155 : decode cX11_about 155 = .ok (.iload 5, 2) := by decide +kernel
theorem dX11_about_157 : decode cX11_about 157 = .ok (.iaload, 1) := by decide +kernel
theorem dX11_about_158 : decode cX11_about 158 = .ok (.iastore, 1) := by decide +kernel
theorem dX11_about_159 : decode cX11_about 159 = .ok (.iinc 5 1, 3) := by decide +kernel
theorem dX11_about_162 : decode cX11_about 162 = .ok (.goto (-28), 3) := by decide +kernel
theorem dX11_about_165 : decode cX11_about 165 = .ok (.aload_n 0, 1) := by decide +kernel
theorem dX11_about_166 : decode cX11_about 166 = .ok (.getfield 55, 3) := by decide +kernel
theorem dX11_about_169 : decode cX11_about 169 = .ok (.aload_n 0, 1) := by decide +kernel
theorem dX11_about_170 : decode cX11_about 170 = .ok (.getfield 289, 3) := by decide +kernel
theorem dX11_about_173 : decode cX11_about 173 = .ok (.iconst 1, 1) := by decide +kernel
theorem dX11_about_174 : decode cX11_about 174 = .ok (.isub, 1) := by decide +kernel
theorem dX11_about_175 : decode cX11_about 175 = .ok (.iload 4, 2) := by decide +kernel
theorem dX11_about_177 : decode cX11_about 177 = .ok (.iastore, 1) := by decide +kernel
theorem dX11_about_178 : decode cX11_about 178 = .ok (.iinc 3 1, 3) := by decide +kernel
theorem dX11_about_181 : decode cX11_about 181 = .ok (.goto (-113), 3) := by decide +kernel
theorem dX11_about_184 : decode cX11_about 184 = .ok (.aload_n 0, 1) := by decide +kernel
theorem dX11_about_185 : decode cX11_about 185 = .ok (.invokevirtual 378, 3) := by decide +kernel
theorem dX11_about_188 : decode cX11_about 188 = .ok (.iload_n 1, 1) := by decide +kernel
theorem dX11_about_189 : decode cX11_about 189 = .ok (.iconst (-1), 1) := by decide +kernel
theorem dX11_about_190 : decode cX11_about 190 = .ok (.if_icmp .eq 10, 3) := by decide +kernel
theorem dX11_about_193 : decode cX11_about 193 = .ok (.aload_n 0, 1) := by decide +kernel
theorem dX11_about_194 : decode cX11_about 194 = .ok (.getfield 104, 3) := by decide +kernel
theorem dX11_about_197 : decode cX11_about 197 = .ok (.iload_n 1, 1) := by decide +kernel
theorem dX11_about_198 : decode cX11_about 198 = .ok (.iaload, 1) := by decide +kernel
theorem dX11_about_199 : decode cX11_about 199 = .ok (.ireturn, 1) := by decide +kernel
theorem dX11_about_200 : decode cX11_about 200 = .ok (.iconst 0, 1) := by decide +kernel
theorem dX11_about_201 : decode cX11_about 201 = .ok (.istore_n 3, 1) := by decide +kernel
theorem dX11_about_202 : decode cX11_about 202 = .ok (.iconst 1, 1) := by decide +kernel
theorem dX11_about_203 : decode cX11_about 203 = .ok (.istore 4, 2) := by decide +kernel
theorem dX11_about_205 : decode cX11_about 205 = .ok (.iload 4, 2) := by decide +kernel
theorem dX11_about_207 : decode cX11_about 207 = .ok (.aload_n 0, 1) := by decide +kernel
theorem dX11_about_208 : decode cX11_about 208 = .ok (.getfield 289, 3) := by decide +kernel
theorem dX11_about_211 : decode cX11_about 211 = .ok (.if_icmp .ge 32, 3) := by decide +kernel
theorem dX11_about_214 : decode cX11_about 214 = .ok (.aload_n 0, 1) := by decide +kernel
theorem dX11_about_215 : decode cX11_about 215 = .ok (.getfield 104, 3) := by decide +kernel
theorem dX11_about_218 : decode cX11_about 218 = .ok (.iload 4, 2) := by decide +kernel
theorem dX11_about_220 : decode cX11_about 220 = .ok (.iaload, 1) := by decide +kernel
theorem dX11_about_221 : decode cX11_about 221 = .ok (.aload_n 0, 1) := by decide +kernel
theorem dX11_about_222 : decode cX11_about 222 = .ok (.getfield 104, 3) := by decide +kernel
theorem dX11_about_225 : decode cX11_about 225 = .ok (.iload_n 3, 1) := by decide +kernel
theorem dX11_about_226 : decode cX11_about 226 = .ok (.iaload, 1) := by decide +kernel
theorem dX11_about_227 : decode cX11_about 227 = .ok (.if_icmp .ge 8, 3) := by decide +kernel
theorem dX11_about_230 : decode cX11_about 230 = .ok (.iload 4, 2) := by decide +kernel
theorem dX11_about_232 : decode cX11_about 232 = .ok (.goto 4, 3) := by decide +kernel
theorem dX11_about_235 : decode cX11_about 235 = .ok (.iload_n 3, 1) := by decide +kernel
theorem dX11_about_236 : decode cX11_about 236 = .ok (.istore_n 3, 1) := by decide +kernel
theorem dX11_about_237 : decode cX11_about 237 = .ok (.iinc 4 1, 3) := by decide +kernel
theorem dX11_about_240 : decode cX11_about 240 = .ok (.goto (-35), 3) := by decide +kernel
theorem dX11_about_243 : decode cX11_about 243 = .ok (.iload_n 3, 1) := by decide +kernel
theorem dX11_about_244 : decode cX11_about 244 = .ok (.ireturn, 1) := by decide +kernel
theorem dX11_layPoison_0 : decode cX11_layPoison 0 = .ok (.aload_n 0, 1) := by decide +kernel
theorem dX11_layPoison_1 : decode cX11_layPoison 1 = .ok (.iload_n 1, 1) := by decide +kernel
theorem dX11_layPoison_2 : decode cX11_layPoison 2 = .ok (.putfield 86, 3) := by decide +kernel
theorem dX11_layPoison_5 : decode cX11_layPoison 5 = .ok (.aload_n 0, 1) := by decide +kernel
theorem dX11_layPoison_6 : decode cX11_layPoison 6 = .ok (.iload_n 2, 1) := by decide +kernel
theorem dX11_layPoison_7 : decode cX11_layPoison 7 = .ok (.putfield 327, 3) := by decide +kernel
theorem dX11_layPoison_10 : decode cX11_layPoison 10 = .ok (.aload_n 0, 1) := by decide +kernel
theorem dX11_layPoison_11 : decode cX11_layPoison 11 = .ok (.aload_n 0, 1) := by decide +kernel
theorem dX11_layPoison_12 : decode cX11_layPoison 12 = .ok (.getfield 292, 3) := by decide +kernel
theorem dX11_layPoison_15 : decode cX11_layPoison 15 = .ok (.invokevirtual 338, 3) := by decide +kernel
theorem dX11_layPoison_18 : decode cX11_layPoison 18 = .ok (.aload_n 0, 1) := by decide +kernel
theorem dX11_layPoison_19 : decode cX11_layPoison 19 = .ok (.iconst (-1), 1) := by decide +kernel
theorem dX11_layPoison_20 : decode cX11_layPoison 20 = .ok (.putfield 86, 3) := by decide +kernel
theorem dX11_layPoison_23 : decode cX11_layPoison 23 = .ok (.return_, 1) := by decide +kernel
theorem dX11_poisonOf_0 : decode cX11_poisonOf 0 = .ok (.aload_n 0, 1) := by decide +kernel
theorem dX11_poisonOf_1 : decode cX11_poisonOf 1 = .ok (.getfield 74, 3) := by decide +kernel
theorem dX11_poisonOf_4 : decode cX11_poisonOf 4 = .ok (.bipush 6, 2) := by decide +kernel
theorem dX11_poisonOf_6 : decode cX11_poisonOf 6 = .ok (.iload_n 1, 1) := by decide +kernel
theorem dX11_poisonOf_7 : decode cX11_poisonOf 7 = .ok (.imul, 1) := by decide +kernel
theorem dX11_poisonOf_8 : decode cX11_poisonOf 8 = .ok (.iconst 5, 1) := by decide +kernel
theorem dX11_poisonOf_9 : decode cX11_poisonOf 9 = .ok (.iadd, 1) := by decide +kernel
theorem dX11_poisonOf_10 : decode cX11_poisonOf 10 = .ok (.iaload, 1) := by decide +kernel
theorem dX11_poisonOf_11 : decode cX11_poisonOf 11 = .ok (.ireturn, 1) := by decide +kernel
theorem dX11_poison_0 : decode cX11_poison 0 = .ok (.aload_n 0, 1) := by decide +kernel
theorem dX11_poison_1 : decode cX11_poison 1 = .ok (.iconst 0, 1) := by decide +kernel
theorem dX11_poison_2 : decode cX11_poison 2 = .ok (.putfield 119, 3) := by decide +kernel
theorem dX11_poison_5 : decode cX11_poison 5 = .ok (.aload_n 0, 1) := by decide +kernel
theorem dX11_poison_6 : decode cX11_poison 6 = .ok (.iload_n 1, 1) := by decide +kernel
theorem dX11_poison_7 : decode cX11_poison 7 = .ok (.invokevirtual 301, 3) := by decide +kernel
theorem dX11_poison_10 : decode cX11_poison 10 = .ok (.ifCond .eq 23, 3) := by decide +kernel
theorem dX11_poison_13 : decode cX11_poison 13 = .ok (.aload_n 0, 1) := by decide +kernel
theorem dX11_poison_14 : decode cX11_poison 14 = .ok (.iload_n 3, 1) := by decide +kernel
theorem dX11_poison_15 : decode cX11_poison 15 = .ok (.invokevirtual 301, 3) := by decide +kernel
theorem dX11_poison_18 : decode cX11_poison 18 = .ok (.ifCond .eq 15, 3) := by decide +kernel
theorem dX11_poison_21 : decode cX11_poison 21 = .ok (.iload_n 2, 1) := by decide +kernel
theorem dX11_poison_22 : decode cX11_poison 22 = .ok (.i2l, 1) := by decide +kernel
theorem dX11_poison_23 : decode cX11_poison 23 = .ok (.lconst 1, 1) := by decide +kernel
theorem dX11_poison_24 : decode cX11_poison 24 = .ok (.ldc2_w 312, 3) := by decide +kernel
theorem dX11_poison_27 : decode cX11_poison 27 = .ok (.invokestatic 240, 3) := by decide +kernel
theorem dX11_poison_30 : decode cX11_poison 30 = .ok (.ifCond .ne 5, 3) := by decide +kernel
theorem dX11_poison_33 : decode cX11_poison 33 = .ok (.iconst (-1), 1) := by decide +kernel
theorem dX11_poison_34 : decode cX11_poison 34 = .ok (.ireturn, 1) := by decide +kernel
theorem dX11_poison_35 : decode cX11_poison 35 = .ok (.aload_n 0, 1) := by decide +kernel
theorem dX11_poison_36 : decode cX11_poison 36 = .ok (.iload_n 1, 1) := by decide +kernel
theorem dX11_poison_37 : decode cX11_poison 37 = .ok (.iload_n 2, 1) := by decide +kernel
theorem dX11_poison_38 : decode cX11_poison 38 = .ok (.invokevirtual 385, 3) := by decide +kernel
theorem dX11_poison_41 : decode cX11_poison 41 = .ok (.aload_n 0, 1) := by decide +kernel
theorem dX11_poison_42 : decode cX11_poison 42 = .ok (.iload_n 3, 1) := by decide +kernel
theorem dX11_poison_43 : decode cX11_poison 43 = .ok (.invokevirtual 388, 3) := by decide +kernel
theorem dX11_poison_46 : decode cX11_poison 46 = .ok (.ireturn, 1) := by decide +kernel
theorem dX11_guilty_0 : decode cX11_guilty 0 = .ok (.aload_n 0, 1) := by decide +kernel
theorem dX11_guilty_1 : decode cX11_guilty 1 = .ok (.iconst 0, 1) := by decide +kernel
theorem dX11_guilty_2 : decode cX11_guilty 2 = .ok (.putfield 119, 3) := by decide +kernel
theorem dX11_guilty_5 : decode cX11_guilty 5 = .ok (.aload_n 0, 1) := by decide +kernel
theorem dX11_guilty_6 : decode cX11_guilty 6 = .ok (.getfield 289, 3) := by decide +kernel
theorem dX11_guilty_9 : decode cX11_guilty 9 = .ok (.ifCond .eq 41, 3) := by decide +kernel
theorem dX11_guilty_12 : decode cX11_guilty 12 = .ok (.iload_n 1, 1) := by decide +kernel
theorem dX11_guilty_13 : decode cX11_guilty 13 = .ok (.i2l, 1) := by decide +kernel
theorem dX11_guilty_14 : decode cX11_guilty 14 = .ok (.lconst 1, 1) := by decide +kernel
theorem dX11_guilty_15 : decode cX11_guilty 15 = .ok (.ldc2_w 312, 3) := by decide +kernel
theorem dX11_guilty_18 : decode cX11_guilty 18 = .ok (.invokestatic 240, 3) := by decide +kernel
theorem dX11_guilty_21 : decode cX11_guilty 21 = .ok (.ifCond .eq 29, 3) := by decide +kernel
theorem dX11_guilty_24 : decode cX11_guilty 24 = .ok (.iload_n 2, 1) := by decide +kernel
theorem dX11_guilty_25 : decode cX11_guilty 25 = .ok (.i2l, 1) := by decide +kernel
theorem dX11_guilty_26 : decode cX11_guilty 26 = .ok (.lconst 1, 1) := by decide +kernel
theorem dX11_guilty_27 : decode cX11_guilty 27 = .ok (.ldc2_w 312, 3) := by decide +kernel
theorem dX11_guilty_30 : decode cX11_guilty 30 = .ok (.invokestatic 240, 3) := by decide +kernel
theorem dX11_guilty_33 : decode cX11_guilty 33 = .ok (.ifCond .eq 17, 3) := by decide +kernel
theorem dX11_guilty_36 : decode cX11_guilty 36 = .ok (.iload_n 3, 1) := by decide +kernel
theorem dX11_guilty_37 : decode cX11_guilty 37 = .ok (.ifCond .lt 13, 3) := by decide +kernel
theorem dX11_guilty_40 : decode cX11_guilty 40 = .ok (.iload_n 3, 1) := by decide +kernel
theorem dX11_guilty_41 : decode cX11_guilty 41 = .ok (.iconst 1, 1) := by decide +kernel
theorem dX11_guilty_42 : decode cX11_guilty 42 = .ok (.aload_n 0, 1) := by decide +kernel
theorem dX11_guilty_43 : decode cX11_guilty 43 = .ok (.getfield 289, 3) := by decide +kernel
theorem dX11_guilty_46 : decode cX11_guilty 46 = .ok (.ishl, 1) := by decide +kernel
theorem dX11_guilty_47 : decode cX11_guilty 47 = .ok (.if_icmp .lt 5, 3) := by decide +kernel
theorem dX11_guilty_50 : decode cX11_guilty 50 = .ok (.iconst (-1), 1) := by decide +kernel
theorem dX11_guilty_51 : decode cX11_guilty 51 = .ok (.ireturn, 1) := by decide +kernel
theorem dX11_guilty_52 : decode cX11_guilty 52 = .ok (.iconst 0, 1) := by decide +kernel
theorem dX11_guilty_53 : decode cX11_guilty 53 = .ok (.istore 4, 2) := by decide +kernel
theorem dX11_guilty_55 : decode cX11_guilty 55 = .ok (.iconst 0, 1) := by decide +kernel
theorem dX11_guilty_56 : decode cX11_guilty 56 = .ok (.istore 5, 2) := by decide +kernel
theorem dX11_guilty_58 : decode cX11_guilty 58 = .ok (.iload 5, 2) := by decide +kernel
theorem dX11_guilty_60 : decode cX11_guilty 60 = .ok (.aload_n 0, 1) := by decide +kernel
theorem dX11_guilty_61 : decode cX11_guilty 61 = .ok (.getfield 289, 3) := by decide +kernel
theorem dX11_guilty_64 : decode cX11_guilty 64 = .ok (.if_icmp .ge 79, 3) := by decide +kernel
theorem dX11_guilty_67 : decode cX11_guilty 67 = .ok (.aload_n 0, 1) := by decide +kernel
theorem dX11_guilty_68 : decode cX11_guilty 68 = .ok (.iload 5, 2) := by decide +kernel
theorem dX11_guilty_70 : decode cX11_guilty 70 = .ok (.iload_n 1, 1) := by decide +kernel
theorem dX11_guilty_71 : decode cX11_guilty 71 = .ok (.invokevirtual 385, 3) := by decide +kernel
theorem dX11_guilty_74 : decode cX11_guilty 74 = .ok (.iconst 0, 1) := by decide +kernel
theorem dX11_guilty_75 : decode cX11_guilty 75 = .ok (.istore 6, 2) := by decide +kernel
theorem dX11_guilty_77 : decode cX11_guilty 77 = .ok (.iconst 0, 1) := by decide +kernel
theorem dX11_guilty_78 : decode cX11_guilty 78 = .ok (.istore 7, 2) := by decide +kernel
theorem dX11_guilty_80 : decode cX11_guilty 80 = .ok (.iload 7, 2) := by decide +kernel
theorem dX11_guilty_82 : decode cX11_guilty 82 = .ok (.aload_n 0, 1) := by decide +kernel
theorem dX11_guilty_83 : decode cX11_guilty 83 = .ok (.getfield 289, 3) := by decide +kernel
theorem dX11_guilty_86 : decode cX11_guilty 86 = .ok (.if_icmp .ge 32, 3) := by decide +kernel
theorem dX11_guilty_89 : decode cX11_guilty 89 = .ok (.iload 6, 2) := by decide +kernel
theorem dX11_guilty_91 : decode cX11_guilty 91 = .ok (.aload_n 0, 1) := by decide +kernel
theorem dX11_guilty_92 : decode cX11_guilty 92 = .ok (.iload 7, 2) := by decide +kernel
theorem dX11_guilty_94 : decode cX11_guilty 94 = .ok (.invokevirtual 388, 3) := by decide +kernel
theorem dX11_guilty_97 : decode cX11_guilty 97 = .ok (.iload_n 2, 1) := by decide +kernel
theorem dX11_guilty_98 : decode cX11_guilty 98 = .ok (.if_icmp .lt 10, 3) := by decide +kernel
theorem dX11_guilty_101 : decode cX11_guilty 101 = .ok (.iconst 1, 1) := by decide +kernel
theorem dX11_guilty_102 : decode cX11_guilty 102 = .ok (.iload 7, 2) := by decide +kernel
theorem dX11_guilty_104 : decode cX11_guilty 104 = .ok (.ishl, 1) := by decide +kernel
theorem dX11_guilty_105 : decode cX11_guilty 105 = .ok (.goto 4, 3) := by decide +kernel
theorem dX11_guilty_108 : decode cX11_guilty 108 = .ok (.iconst 0, 1) := by decide +kernel
theorem dX11_guilty_109 : decode cX11_guilty 109 = .ok (.ior, 1) := by decide +kernel
theorem dX11_guilty_110 : decode cX11_guilty 110 = .ok (.istore 6, 2) := by decide +kernel
theorem dX11_guilty_112 : decode cX11_guilty 112 = .ok (.iinc 7 1, 3) := by decide +kernel
theorem dX11_guilty_115 : decode cX11_guilty 115 = .ok (.goto (-35), 3) := by decide +kernel
theorem dX11_guilty_118 : decode cX11_guilty 118 = .ok (.iload 4, 2) := by decide +kernel
theorem dX11_guilty_120 : decode cX11_guilty 120 = .ok (.iload 6, 2) := by decide +kernel
theorem dX11_guilty_122 : decode cX11_guilty 122 = .ok (.iload_n 3, 1) := by decide +kernel
theorem dX11_guilty_123 : decode cX11_guilty 123 = .ok (.if_icmp .ne 10, 3) := by decide +kernel
theorem dX11_guilty_126 : decode cX11_guilty 126 = .ok (.iconst 1, 1) := by decide +kernel
theorem dX11_guilty_127 : decode cX11_guilty 127 = .ok (.iload 5, 2) := by decide +kernel
theorem dX11_guilty_129 : decode cX11_guilty 129 = .ok (.ishl, 1) := by decide +kernel
theorem dX11_guilty_130 : decode cX11_guilty 130 = .ok (.goto 4, 3) := by decide +kernel
theorem dX11_guilty_133 : decode cX11_guilty 133 = .ok (.iconst 0, 1) := by decide +kernel
theorem dX11_guilty_134 : decode cX11_guilty 134 = .ok (.ior, 1) := by decide +kernel
theorem dX11_guilty_135 : decode cX11_guilty 135 = .ok (.istore 4, 2) := by decide +kernel
theorem dX11_guilty_137 : decode cX11_guilty 137 = .ok (.iinc 5 1, 3) := by decide +kernel
theorem dX11_guilty_140 : decode cX11_guilty 140 = .ok (.goto (-82), 3) := by decide +kernel
theorem dX11_guilty_143 : decode cX11_guilty 143 = .ok (.iload 4, 2) := by decide +kernel
theorem dX11_guilty_145 : decode cX11_guilty 145 = .ok (.ireturn, 1) := by decide +kernel
theorem dX11_harm_0 : decode cX11_harm 0 = .ok (.aload_n 0, 1) := by decide +kernel
theorem dX11_harm_1 : decode cX11_harm 1 = .ok (.iconst 0, 1) := by decide +kernel
theorem dX11_harm_2 : decode cX11_harm 2 = .ok (.putfield 119, 3) := by decide +kernel
theorem dX11_harm_5 : decode cX11_harm 5 = .ok (.aload_n 0, 1) := by decide +kernel
theorem dX11_harm_6 : decode cX11_harm 6 = .ok (.iload_n 1, 1) := by decide +kernel
theorem dX11_harm_7 : decode cX11_harm 7 = .ok (.invokevirtual 301, 3) := by decide +kernel
theorem dX11_harm_10 : decode cX11_harm 10 = .ok (.ifCond .eq 25, 3) := by decide +kernel
theorem dX11_harm_13 : decode cX11_harm 13 = .ok (.iload_n 2, 1) := by decide +kernel
theorem dX11_harm_14 : decode cX11_harm 14 = .ok (.i2l, 1) := by decide +kernel
theorem dX11_harm_15 : decode cX11_harm 15 = .ok (.lconst 1, 1) := by decide +kernel
theorem dX11_harm_16 : decode cX11_harm 16 = .ok (.ldc2_w 312, 3) := by decide +kernel
theorem dX11_harm_19 : decode cX11_harm 19 = .ok (.invokestatic 240, 3) := by decide +kernel
theorem dX11_harm_22 : decode cX11_harm 22 = .ok (.ifCond .eq 13, 3) := by decide +kernel
theorem dX11_harm_25 : decode cX11_harm 25 = .ok (.iload_n 3, 1) := by decide +kernel
theorem dX11_harm_26 : decode cX11_harm 26 = .ok (.i2l, 1) := by decide +kernel
theorem dX11_harm_27 : decode cX11_harm 27 = .ok (.lconst 0, 1) := by decide +kernel
theorem dX11_harm_28 : decode cX11_harm 28 = .ok (.lconst 1, 1) := by decide +kernel
theorem dX11_harm_29 : decode cX11_harm 29 = .ok (.invokestatic 240, 3) := by decide +kernel
theorem dX11_harm_32 : decode cX11_harm 32 = .ok (.ifCond .ne 5, 3) := by decide +kernel
theorem dX11_harm_35 : decode cX11_harm 35 = .ok (.iconst (-1), 1) := by decide +kernel
theorem dX11_harm_36 : decode cX11_harm 36 = .ok (.ireturn, 1) := by decide +kernel
theorem dX11_harm_37 : decode cX11_harm 37 = .ok (.iconst (-1), 1) := by decide +kernel
theorem dX11_harm_38 : decode cX11_harm 38 = .ok (.istore 4, 2) := by decide +kernel
theorem dX11_harm_40 : decode cX11_harm 40 = .ok (.iconst 0, 1) := by decide +kernel
theorem dX11_harm_41 : decode cX11_harm 41 = .ok (.istore 5, 2) := by decide +kernel
theorem dX11_harm_43 : decode cX11_harm 43 = .ok (.iconst 1, 1) := by decide +kernel
theorem dX11_harm_44 : decode cX11_harm 44 = .ok (.istore 6, 2) := by decide +kernel
theorem dX11_harm_46 : decode cX11_harm 46 = .ok (.iload 6, 2) := by decide +kernel
theorem dX11_harm_48 : decode cX11_harm 48 = .ok (.bipush 100, 2) := by decide +kernel
theorem dX11_harm_50 : decode cX11_harm 50 = .ok (.if_icmp .ge 119, 3) := by decide +kernel
theorem dX11_harm_53 : decode cX11_harm 53 = .ok (.iconst 0, 1) := by decide +kernel
theorem dX11_harm_54 : decode cX11_harm 54 = .ok (.istore 7, 2) := by decide +kernel
theorem dX11_harm_56 : decode cX11_harm 56 = .ok (.iload 7, 2) := by decide +kernel
theorem dX11_harm_58 : decode cX11_harm 58 = .ok (.aload_n 0, 1) := by decide +kernel
theorem dX11_harm_59 : decode cX11_harm 59 = .ok (.getfield 289, 3) := by decide +kernel
theorem dX11_harm_62 : decode cX11_harm 62 = .ok (.if_icmp .ge 101, 3) := by decide +kernel
theorem dX11_harm_65 : decode cX11_harm 65 = .ok (.aload_n 0, 1) := by decide +kernel
theorem dX11_harm_66 : decode cX11_harm 66 = .ok (.iload 7, 2) := by decide +kernel
theorem dX11_harm_68 : decode cX11_harm 68 = .ok (.iload 6, 2) := by decide +kernel
theorem dX11_harm_70 : decode cX11_harm 70 = .ok (.invokevirtual 385, 3) := by decide +kernel
theorem dX11_harm_73 : decode cX11_harm 73 = .ok (.aload_n 0, 1) := by decide +kernel
theorem dX11_harm_74 : decode cX11_harm 74 = .ok (.iload_n 1, 1) := by decide +kernel
theorem dX11_harm_75 : decode cX11_harm 75 = .ok (.invokevirtual 388, 3) := by decide +kernel
theorem dX11_harm_78 : decode cX11_harm 78 = .ok (.iload_n 2, 1) := by decide +kernel
theorem dX11_harm_79 : decode cX11_harm 79 = .ok (.if_icmp .ge 6, 3) := by decide +kernel
theorem dX11_harm_82 : decode cX11_harm 82 = .ok (.goto 75, 3) := by decide +kernel
theorem dX11_harm_85 : decode cX11_harm 85 = .ok (.iconst 0, 1) := by decide +kernel
theorem dX11_harm_86 : decode cX11_harm 86 = .ok (.istore 8, 2) := by decide +kernel
theorem dX11_harm_88 : decode cX11_harm 88 = .ok (.iconst 0, 1) := by decide +kernel
theorem dX11_harm_89 : decode cX11_harm 89 = .ok (.istore 9, 2) := by decide +kernel
theorem dX11_harm_91 : decode cX11_harm 91 = .ok (.iload 9, 2) := by decide +kernel
theorem dX11_harm_93 : decode cX11_harm 93 = .ok (.aload_n 0, 1) := by decide +kernel
theorem dX11_harm_94 : decode cX11_harm 94 = .ok (.getfield 289, 3) := by decide +kernel
theorem dX11_harm_97 : decode cX11_harm 97 = .ok (.if_icmp .ge 30, 3) := by decide +kernel
theorem dX11_harm_100 : decode cX11_harm 100 = .ok (.iload 8, 2) := by decide +kernel
theorem dX11_harm_102 : decode cX11_harm 102 = .ok (.iload 9, 2) := by decide +kernel
theorem dX11_harm_104 : decode cX11_harm 104 = .ok (.iload_n 1, 1) := by decide +kernel
theorem dX11_harm_105 : decode cX11_harm 105 = .ok (.if_icmp .ne 7, 3) := by decide +kernel
theorem dX11_harm_108 : decode cX11_harm 108 = .ok (.iconst 0, 1) := by decide +kernel
theorem dX11_harm_109 : decode cX11_harm 109 = .ok (.goto 9, 3) := by decide +kernel
theorem dX11_harm_112 : decode cX11_harm 112 = .ok (.aload_n 0, 1) := by decide +kernel
theorem dX11_harm_113 : decode cX11_harm 113 = .ok (.iload 9, 2) := by decide +kernel
theorem dX11_harm_115 : decode cX11_harm 115 = .ok (.invokevirtual 388, 3) := by decide +kernel
theorem dX11_harm_118 : decode cX11_harm 118 = .ok (.iadd, 1) := by decide +kernel
theorem dX11_harm_119 : decode cX11_harm 119 = .ok (.istore 8, 2) := by decide +kernel
theorem dX11_harm_121 : decode cX11_harm 121 = .ok (.iinc 9 1, 3) := by decide +kernel
theorem dX11_harm_124 : decode cX11_harm 124 = .ok (.goto (-33), 3) := by decide +kernel
theorem dX11_harm_127 : decode cX11_harm 127 = .ok (.iload 4, 2) := by decide +kernel
theorem dX11_harm_129 : decode cX11_harm 129 = .ok (.iconst (-1), 1) := by decide +kernel
theorem dX11_harm_130 : decode cX11_harm 130 = .ok (.if_icmp .eq 13, 3) := by decide +kernel
theorem dX11_harm_133 : decode cX11_harm 133 = .ok (.iload 8, 2) := by decide +kernel
theorem dX11_harm_135 : decode cX11_harm 135 = .ok (.iload 5, 2) := by decide +kernel
theorem dX11_harm_137 : decode cX11_harm 137 = .ok (.if_icmp .lt 6, 3) := by decide +kernel
theorem dX11_harm_140 : decode cX11_harm 140 = .ok (.goto 17, 3) := by decide +kernel
theorem dX11_harm_143 : decode cX11_harm 143 = .ok (.bipush 100, 2) := by decide +kernel
theorem dX11_harm_145 : decode cX11_harm 145 = .ok (.iload 7, 2) := by decide +kernel
theorem dX11_harm_147 : decode cX11_harm 147 = .ok (.imul, 1) := by decide +kernel
theorem dX11_harm_148 : decode cX11_harm 148 = .ok (.iload 6, 2) := by decide +kernel
theorem dX11_harm_150 : decode cX11_harm 150 = .ok (.iadd, 1) := by decide +kernel
theorem dX11_harm_151 : decode cX11_harm 151 = .ok (.istore 4, 2) := by decide +kernel
theorem dX11_harm_153 : decode cX11_harm 153 = .ok (.iload 8, 2) := by decide +kernel
theorem dX11_harm_155 : decode cX11_harm 155 = .ok (.istore 5, 2) := by decide +kernel
theorem dX11_harm_157 : decode cX11_harm 157 = .ok (.iinc 7 1, 3) := by decide +kernel
theorem dX11_harm_160 : decode cX11_harm 160 = .ok (.goto (-104), 3) := by decide +kernel
theorem dX11_harm_163 : decode cX11_harm 163 = .ok (.iinc 6 1, 3) := by decide +kernel
theorem dX11_harm_166 : decode cX11_harm 166 = .ok (.goto (-120), 3) := by decide +kernel
theorem dX11_harm_169 : decode cX11_harm 169 = .ok (.iload 4, 2) := by decide +kernel
theorem dX11_harm_171 : decode cX11_harm 171 = .ok (.iconst (-1), 1) := by decide +kernel
theorem dX11_harm_172 : decode cX11_harm 172 = .ok (.if_icmp .ne 7, 3) := by decide +kernel
theorem dX11_harm_175 : decode cX11_harm 175 = .ok (.iconst (-1), 1) := by decide +kernel
theorem dX11_harm_176 : decode cX11_harm 176 = .ok (.goto 14, 3) := by decide +kernel
theorem dX11_harm_179 : decode cX11_harm 179 = .ok (.iload_n 3, 1) := by decide +kernel
theorem dX11_harm_180 : decode cX11_harm 180 = .ok (.ifCond .ne 8, 3) := by decide +kernel
theorem dX11_harm_183 : decode cX11_harm 183 = .ok (.iload 4, 2) := by decide +kernel
theorem dX11_harm_185 : decode cX11_harm 185 = .ok (.goto 5, 3) := by decide +kernel
theorem dX11_harm_188 : decode cX11_harm 188 = .ok (.iload 5, 2) := by decide +kernel
theorem dX11_harm_190 : decode cX11_harm 190 = .ok (.ireturn, 1) := by decide +kernel
theorem dX11_stranger_0 : decode cX11_stranger 0 = .ok (.aload_n 0, 1) := by decide +kernel
theorem dX11_stranger_1 : decode cX11_stranger 1 = .ok (.iconst 0, 1) := by decide +kernel
theorem dX11_stranger_2 : decode cX11_stranger 2 = .ok (.putfield 119, 3) := by decide +kernel
theorem dX11_stranger_5 : decode cX11_stranger 5 = .ok (.aload_n 0, 1) := by decide +kernel
theorem dX11_stranger_6 : decode cX11_stranger 6 = .ok (.getfield 289, 3) := by decide +kernel
theorem dX11_stranger_9 : decode cX11_stranger 9 = .ok (.ifCond .eq 41, 3) := by decide +kernel
theorem dX11_stranger_12 : decode cX11_stranger 12 = .ok (.iload_n 1, 1) := by decide +kernel
theorem dX11_stranger_13 : decode cX11_stranger 13 = .ok (.i2l, 1) := by decide +kernel
theorem dX11_stranger_14 : decode cX11_stranger 14 = .ok (.lconst 0, 1) := by decide +kernel
theorem dX11_stranger_15 : decode cX11_stranger 15 = .ok (.aload_n 0, 1) := by decide +kernel
theorem dX11_stranger_16 : decode cX11_stranger 16 = .ok (.getfield 289, 3) := by decide +kernel
theorem dX11_stranger_19 : decode cX11_stranger 19 = .ok (.iconst 1, 1) := by decide +kernel
theorem dX11_stranger_20 : decode cX11_stranger 20 = .ok (.isub, 1) := by decide +kernel
theorem dX11_stranger_21 : decode cX11_stranger 21 = .ok (.i2l, 1) := by decide +kernel
theorem dX11_stranger_22 : decode cX11_stranger 22 = .ok (.invokestatic 240, 3) := by decide +kernel
theorem dX11_stranger_25 : decode cX11_stranger 25 = .ok (.ifCond .eq 25, 3) := by decide +kernel
theorem dX11_stranger_28 : decode cX11_stranger 28 = .ok (.iload_n 2, 1) := by decide +kernel
theorem dX11_stranger_29 : decode cX11_stranger 29 = .ok (.i2l, 1) := by decide +kernel
theorem dX11_stranger_30 : decode cX11_stranger 30 = .ok (.lconst 0, 1) := by decide +kernel
theorem dX11_stranger_31 : decode cX11_stranger 31 = .ok (.ldc2_w 312, 3) := by decide +kernel
theorem dX11_stranger_34 : decode cX11_stranger 34 = .ok (.invokestatic 240, 3) := by decide +kernel
theorem dX11_stranger_37 : decode cX11_stranger 37 = .ok (.ifCond .eq 13, 3) := by decide +kernel
theorem dX11_stranger_40 : decode cX11_stranger 40 = .ok (.iload_n 3, 1) := by decide +kernel
theorem dX11_stranger_41 : decode cX11_stranger 41 = .ok (.i2l, 1) := by decide +kernel
theorem dX11_stranger_42 : decode cX11_stranger 42 = .ok (.lconst 0, 1) := by decide +kernel
theorem dX11_stranger_43 : decode cX11_stranger 43 = .ok (.lconst 1, 1) := by decide +kernel
theorem dX11_stranger_44 : decode cX11_stranger 44 = .ok (.invokestatic 240, 3) := by decide +kernel
theorem dX11_stranger_47 : decode cX11_stranger 47 = .ok (.ifCond .ne 7, 3) := by decide +kernel
theorem dX11_stranger_50 : decode cX11_stranger 50 = .ok (.ldc_w 337, 3) := by decide +kernel
theorem dX11_stranger_53 : decode cX11_stranger 53 = .ok (.ireturn, 1) := by decide +kernel
theorem dX11_stranger_54 : decode cX11_stranger 54 = .ok (.aload_n 0, 1) := by decide +kernel
theorem dX11_stranger_55 : decode cX11_stranger 55 = .ok (.aload_n 0, 1) := by decide +kernel
theorem dX11_stranger_56 : decode cX11_stranger 56 = .ok (.getfield 292, 3) := by decide +kernel
theorem dX11_stranger_59 : decode cX11_stranger 59 = .ok (.invokevirtual 338, 3) := by decide +kernel
theorem dX11_stranger_62 : decode cX11_stranger 62 = .ok (.aload_n 0, 1) := by decide +kernel
theorem dX11_stranger_63 : decode cX11_stranger 63 = .ok (.iconst 0, 1) := by decide +kernel
theorem dX11_stranger_64 : decode cX11_stranger 64 = .ok (.aload_n 0, 1) := by decide +kernel
theorem dX11_stranger_65 : decode cX11_stranger 65 = .ok (.getfield 292, 3) := by decide +kernel
theorem dX11_stranger_68 : decode cX11_stranger 68 = .ok (.invokevirtual 364, 3) := by decide +kernel
theorem dX11_stranger_71 : decode cX11_stranger 71 = .ok (.istore 4, 2) := by decide +kernel
theorem dX11_stranger_73 : decode cX11_stranger 73 = .ok (.aload_n 0, 1) := by decide +kernel
theorem dX11_stranger_74 : decode cX11_stranger 74 = .ok (.iload_n 1, 1) := by decide +kernel
theorem dX11_stranger_75 : decode cX11_stranger 75 = .ok (.putfield 89, 3) := by decide +kernel
theorem dX11_stranger_78 : decode cX11_stranger 78 = .ok (.aload_n 0, 1) := by decide +kernel
theorem dX11_stranger_79 : decode cX11_stranger 79 = .ok (.iload_n 2, 1) := by decide +kernel
theorem dX11_stranger_80 : decode cX11_stranger 80 = .ok (.putfield 320, 3) := by decide +kernel
theorem dX11_stranger_83 : decode cX11_stranger 83 = .ok (.aload_n 0, 1) := by decide +kernel
theorem dX11_stranger_84 : decode cX11_stranger 84 = .ok (.aload_n 0, 1) := by decide +kernel
theorem dX11_stranger_85 : decode cX11_stranger 85 = .ok (.getfield 292, 3) := by decide +kernel
theorem dX11_stranger_88 : decode cX11_stranger 88 = .ok (.invokevirtual 338, 3) := by decide +kernel
theorem dX11_stranger_91 : decode cX11_stranger 91 = .ok (.aload_n 0, 1) := by decide +kernel
theorem dX11_stranger_92 : decode cX11_stranger 92 = .ok (.iconst (-1), 1) := by decide +kernel
theorem dX11_stranger_93 : decode cX11_stranger 93 = .ok (.putfield 89, 3) := by decide +kernel
theorem dX11_stranger_96 : decode cX11_stranger 96 = .ok (.iconst 0, 1) := by decide +kernel
theorem dX11_stranger_97 : decode cX11_stranger 97 = .ok (.istore 5, 2) := by decide +kernel
theorem dX11_stranger_99 : decode cX11_stranger 99 = .ok (.iconst 0, 1) := by decide +kernel
theorem dX11_stranger_100 : decode cX11_stranger 100 = .ok (.istore 6, 2) := by decide +kernel
theorem dX11_stranger_102 : decode cX11_stranger 102 = .ok (.iload 6, 2) := by decide +kernel
theorem dX11_stranger_104 : decode cX11_stranger 104 = .ok (.iconst 5, 1) := by decide +kernel
theorem dX11_stranger_105 : decode cX11_stranger 105 = .ok (.if_icmp .gt 21, 3) := by decide +kernel
theorem dX11_stranger_108 : decode cX11_stranger 108 = .ok (.iload 5, 2) := by decide +kernel
theorem dX11_stranger_110 : decode cX11_stranger 110 = .ok (.aload_n 0, 1) := by decide +kernel
theorem dX11_stranger_111 : decode cX11_stranger 111 = .ok (.getfield 80, 3) := by decide +kernel
theorem dX11_stranger_114 : decode cX11_stranger 114 = .ok (.iload 6, 2) := by decide +kernel
theorem dX11_stranger_116 : decode cX11_stranger 116 = .ok (.iaload, 1) := by decide +kernel
theorem dX11_stranger_117 : decode cX11_stranger 117 = .ok (.iadd, 1) := by decide +kernel
theorem dX11_stranger_118 : decode cX11_stranger 118 = .ok (.istore 5, 2) := by decide +kernel
theorem dX11_stranger_120 : decode cX11_stranger 120 = .ok (.iinc 6 1, 3) := by decide +kernel
theorem dX11_stranger_123 : decode cX11_stranger 123 = .ok (.goto (-21), 3) := by decide +kernel
theorem dX11_stranger_126 : decode cX11_stranger 126 = .ok (.iload_n 3, 1) := by decide +kernel
theorem dX11_stranger_127 : decode cX11_stranger 127 = .ok (.ifCond .ne 8, 3) := by decide +kernel
theorem dX11_stranger_130 : decode cX11_stranger 130 = .ok (.iload 5, 2) := by decide +kernel
theorem dX11_stranger_132 : decode cX11_stranger 132 = .ok (.goto 15, 3) := by decide +kernel
theorem dX11_stranger_135 : decode cX11_stranger 135 = .ok (.iload 4, 2) := by decide +kernel
theorem dX11_stranger_137 : decode cX11_stranger 137 = .ok (.aload_n 0, 1) := by decide +kernel
theorem dX11_stranger_138 : decode cX11_stranger 138 = .ok (.iconst 0, 1) := by decide +kernel
theorem dX11_stranger_139 : decode cX11_stranger 139 = .ok (.aload_n 0, 1) := by decide +kernel
theorem dX11_stranger_140 : decode cX11_stranger 140 = .ok (.getfield 292, 3) := by decide +kernel
theorem dX11_stranger_143 : decode cX11_stranger 143 = .ok (.invokevirtual 364, 3) := by decide +kernel
theorem dX11_stranger_146 : decode cX11_stranger 146 = .ok (.isub, 1) := by decide +kernel
theorem dX11_stranger_147 : decode cX11_stranger 147 = .ok (.ireturn, 1) := by decide +kernel
theorem dX11_exchangeLadles_0 : decode cX11_exchangeLadles 0 = .ok (.aload_n 0, 1) := by decide +kernel
theorem dX11_exchangeLadles_1 : decode cX11_exchangeLadles 1 = .ok (.getfield 43, 3) := by decide +kernel
theorem dX11_exchangeLadles_4 : decode cX11_exchangeLadles 4 = .ok (.bipush 8, 2) := by decide +kernel
theorem dX11_exchangeLadles_6 : decode cX11_exchangeLadles 6 = .ok (.iload_n 1, 1) := by decide +kernel
theorem dX11_exchangeLadles_7 : decode cX11_exchangeLadles 7 = .ok (.imul, 1) := by decide +kernel
theorem dX11_exchangeLadles_8 : decode cX11_exchangeLadles 8 = .ok (.iconst 5, 1) := by decide +kernel
theorem dX11_exchangeLadles_9 : decode cX11_exchangeLadles 9 = .ok (.iadd, 1) := by decide +kernel
theorem dX11_exchangeLadles_10 : decode cX11_exchangeLadles 10 = .ok (.iaload, 1) := by decide +kernel
theorem dX11_exchangeLadles_11 : decode cX11_exchangeLadles 11 = .ok (.istore_n 3, 1) := by decide +kernel
theorem dX11_exchangeLadles_12 : decode cX11_exchangeLadles 12 = .ok (.aload_n 0, 1) := by decide +kernel
theorem dX11_exchangeLadles_13 : decode cX11_exchangeLadles 13 = .ok (.getfield 43, 3) := by decide +kernel
theorem dX11_exchangeLadles_16 : decode cX11_exchangeLadles 16 = .ok (.bipush 8, 2) := by decide +kernel
theorem dX11_exchangeLadles_18 : decode cX11_exchangeLadles 18 = .ok (.iload_n 1, 1) := by decide +kernel
theorem dX11_exchangeLadles_19 : decode cX11_exchangeLadles 19 = .ok (.imul, 1) := by decide +kernel
theorem dX11_exchangeLadles_20 : decode cX11_exchangeLadles 20 = .ok (.iconst 5, 1) := by decide +kernel
theorem dX11_exchangeLadles_21 : decode cX11_exchangeLadles 21 = .ok (.iadd, 1) := by decide +kernel
theorem dX11_exchangeLadles_22 : decode cX11_exchangeLadles 22 = .ok (.aload_n 0, 1) := by decide +kernel
theorem dX11_exchangeLadles_23 : decode cX11_exchangeLadles 23 = .ok (.getfield 43, 3) := by decide +kernel
theorem dX11_exchangeLadles_26 : decode cX11_exchangeLadles 26 = .ok (.bipush 8, 2) := by decide +kernel
theorem dX11_exchangeLadles_28 : decode cX11_exchangeLadles 28 = .ok (.iload_n 2, 1) := by decide +kernel
theorem dX11_exchangeLadles_29 : decode cX11_exchangeLadles 29 = .ok (.imul, 1) := by decide +kernel
theorem dX11_exchangeLadles_30 : decode cX11_exchangeLadles 30 = .ok (.iconst 5, 1) := by decide +kernel
theorem dX11_exchangeLadles_31 : decode cX11_exchangeLadles 31 = .ok (.iadd, 1) := by decide +kernel
theorem dX11_exchangeLadles_32 : decode cX11_exchangeLadles 32 = .ok (.iaload, 1) := by decide +kernel
theorem dX11_exchangeLadles_33 : decode cX11_exchangeLadles 33 = .ok (.iastore, 1) := by decide +kernel
theorem dX11_exchangeLadles_34 : decode cX11_exchangeLadles 34 = .ok (.aload_n 0, 1) := by decide +kernel
theorem dX11_exchangeLadles_35 : decode cX11_exchangeLadles 35 = .ok (.getfield 43, 3) := by decide +kernel
theorem dX11_exchangeLadles_38 : decode cX11_exchangeLadles 38 = .ok (.bipush 8, 2) := by decide +kernel
theorem dX11_exchangeLadles_40 : decode cX11_exchangeLadles 40 = .ok (.iload_n 2, 1) := by decide +kernel
theorem dX11_exchangeLadles_41 : decode cX11_exchangeLadles 41 = .ok (.imul, 1) := by decide +kernel
theorem dX11_exchangeLadles_42 : decode cX11_exchangeLadles 42 = .ok (.iconst 5, 1) := by decide +kernel
theorem dX11_exchangeLadles_43 : decode cX11_exchangeLadles 43 = .ok (.iadd, 1) := by decide +kernel
theorem dX11_exchangeLadles_44 : decode cX11_exchangeLadles 44 = .ok (.iload_n 3, 1) := by decide +kernel
theorem dX11_exchangeLadles_45 : decode cX11_exchangeLadles 45 = .ok (.iastore, 1) := by decide +kernel
theorem dX11_exchangeLadles_46 : decode cX11_exchangeLadles 46 = .ok (.return_, 1) := by decide +kernel
theorem dX11_exchange_0 : decode cX11_exchange 0 = .ok (.aload_n 0, 1) := by decide +kernel
theorem dX11_exchange_1 : decode cX11_exchange 1 = .ok (.iconst 0, 1) := by decide +kernel
theorem dX11_exchange_2 : decode cX11_exchange 2 = .ok (.putfield 119, 3) := by decide +kernel
theorem dX11_exchange_5 : decode cX11_exchange 5 = .ok (.aload_n 0, 1) := by decide +kernel
theorem dX11_exchange_6 : decode cX11_exchange 6 = .ok (.getfield 289, 3) := by decide +kernel
theorem dX11_exchange_9 : decode cX11_exchange 9 = .ok (.ifCond .eq 13, 3) := by decide +kernel
theorem dX11_exchange_12 : decode cX11_exchange 12 = .ok (.iload_n 1, 1) := by decide +kernel
theorem dX11_exchange_13 : decode cX11_exchange 13 = .ok (.i2l, 1) := by decide +kernel
theorem dX11_exchange_14 : decode cX11_exchange 14 = .ok (.lconst 0, 1) := by decide +kernel
theorem dX11_exchange_15 : decode cX11_exchange 15 = .ok (.lconst 1, 1) := by decide +kernel
theorem dX11_exchange_16 : decode cX11_exchange 16 = .ok (.invokestatic 240, 3) := by decide +kernel
theorem dX11_exchange_19 : decode cX11_exchange 19 = .ok (.ifCond .ne 7, 3) := by decide +kernel
theorem dX11_exchange_22 : decode cX11_exchange 22 = .ok (.ldc_w 337, 3) := by decide +kernel
theorem dX11_exchange_25 : decode cX11_exchange 25 = .ok (.ireturn, 1) := by decide +kernel
theorem dX11_exchange_26 : decode cX11_exchange 26 = .ok (.aload_n 0, 1) := by decide +kernel
theorem dX11_exchange_27 : decode cX11_exchange 27 = .ok (.aload_n 0, 1) := by decide +kernel
theorem dX11_exchange_28 : decode cX11_exchange 28 = .ok (.getfield 292, 3) := by decide +kernel
theorem dX11_exchange_31 : decode cX11_exchange 31 = .ok (.invokevirtual 338, 3) := by decide +kernel
theorem dX11_exchange_34 : decode cX11_exchange 34 = .ok (.iconst (-1), 1) := by decide +kernel
theorem dX11_exchange_35 : decode cX11_exchange 35 = .ok (.istore_n 2, 1) := by decide +kernel
theorem dX11_exchange_36 : decode cX11_exchange 36 = .ok (.aload_n 0, 1) := by decide +kernel
theorem dX11_exchange_37 : decode cX11_exchange 37 = .ok (.iconst 1, 1) := by decide +kernel
theorem dX11_exchange_38 : decode cX11_exchange 38 = .ok (.aload_n 0, 1) := by decide +kernel
theorem dX11_exchange_39 : decode cX11_exchange 39 = .ok (.getfield 292, 3) := by decide +kernel
theorem dX11_exchange_42 : decode cX11_exchange 42 = .ok (.invokevirtual 364, 3) := by decide +kernel
theorem dX11_exchange_45 : decode cX11_exchange 45 = .ok (.istore_n 3, 1) := by decide +kernel
theorem dX11_exchange_46 : decode cX11_exchange 46 = .ok (.iconst 0, 1) := by decide +kernel
theorem dX11_exchange_47 : decode cX11_exchange 47 = .ok (.istore 4, 2) := by decide +kernel
theorem dX11_exchange_49 : decode cX11_exchange 49 = .ok (.iload 4, 2) := by decide +kernel
theorem dX11_exchange_51 : decode cX11_exchange 51 = .ok (.aload_n 0, 1) := by decide +kernel
theorem dX11_exchange_52 : decode cX11_exchange 52 = .ok (.getfield 289, 3) := by decide +kernel
theorem dX11_exchange_55 : decode cX11_exchange 55 = .ok (.if_icmp .ge 86, 3) := by decide +kernel
theorem dX11_exchange_58 : decode cX11_exchange 58 = .ok (.iload 4, 2) := by decide +kernel
theorem dX11_exchange_60 : decode cX11_exchange 60 = .ok (.iconst 1, 1) := by decide +kernel
theorem dX11_exchange_61 : decode cX11_exchange 61 = .ok (.iadd, 1) := by decide +kernel
theorem dX11_exchange_62 : decode cX11_exchange 62 = .ok (.istore 5, 2) := by decide +kernel
theorem dX11_exchange_64 : decode cX11_exchange 64 = .ok (.iload 5, 2) := by decide +kernel
theorem dX11_exchange_66 : decode cX11_exchange 66 = .ok (.aload_n 0, 1) := by decide +kernel
theorem dX11_exchange_67 : decode cX11_exchange 67 = .ok (.getfield 289, 3) := by decide +kernel
theorem dX11_exchange_70 : decode cX11_exchange 70 = .ok (.if_icmp .ge 65, 3) := by decide +kernel
theorem dX11_exchange_73 : decode cX11_exchange 73 = .ok (.aload_n 0, 1) := by decide +kernel
theorem dX11_exchange_74 : decode cX11_exchange 74 = .ok (.iload 4, 2) := by decide +kernel
theorem dX11_exchange_76 : decode cX11_exchange 76 = .ok (.iload 5, 2) := by decide +kernel
theorem dX11_exchange_78 : decode cX11_exchange 78 = .ok (.invokevirtual 391, 3) := by decide +kernel
theorem dX11_exchange_81 : decode cX11_exchange 81 = .ok (.aload_n 0, 1) := by decide +kernel
theorem dX11_exchange_82 : decode cX11_exchange 82 = .ok (.aload_n 0, 1) := by decide +kernel
theorem dX11_exchange_83 : decode cX11_exchange 83 = .ok (.getfield 292, 3) := by decide +kernel
theorem dX11_exchange_86 : decode cX11_exchange 86 = .ok (.invokevirtual 338, 3) := by decide +kernel
theorem dX11_exchange_89 : decode cX11_exchange 89 = .ok (.aload_n 0, 1) := by decide +kernel
theorem dX11_exchange_90 : decode cX11_exchange 90 = .ok (.iconst 1, 1) := by decide +kernel
theorem dX11_exchange_91 : decode cX11_exchange 91 = .ok (.aload_n 0, 1) := by decide +kernel
theorem dX11_exchange_92 : decode cX11_exchange 92 = .ok (.getfield 292, 3) := by decide +kernel
theorem dX11_exchange_95 : decode cX11_exchange 95 = .ok (.invokevirtual 364, 3) := by decide +kernel
theorem dX11_exchange_98 : decode cX11_exchange 98 = .ok (.istore 6, 2) := by decide +kernel
theorem dX11_exchange_100 : decode cX11_exchange 100 = .ok (.aload_n 0, 1) := by decide +kernel
theorem dX11_exchange_101 : decode cX11_exchange 101 = .ok (.iload 4, 2) := by decide +kernel
theorem dX11_exchange_103 : decode cX11_exchange 103 = .ok (.iload 5, 2) := by decide +kernel
theorem dX11_exchange_105 : decode cX11_exchange 105 = .ok (.invokevirtual 391, 3) := by decide +kernel
theorem dX11_exchange_108 : decode cX11_exchange 108 = .ok (.iload 6, 2) := by decide +kernel
theorem dX11_exchange_110 : decode cX11_exchange 110 = .ok (.iload_n 3, 1) := by decide +kernel
theorem dX11_exchange_111 : decode cX11_exchange 111 = .ok (.if_icmp .gt 6, 3) := by decide +kernel
theorem dX11_exchange_114 : decode cX11_exchange 114 = .ok (.goto 15, 3) := by decide +kernel
theorem dX11_exchange_117 : decode cX11_exchange 117 = .ok (.bipush 10, 2) := by decide +kernel
theorem dX11_exchange_119 : decode cX11_exchange 119 = .ok (.iload 4, 2) := by decide +kernel
theorem dX11_exchange_121 : decode cX11_exchange 121 = .ok (.imul, 1) := by decide +kernel
theorem dX11_exchange_122 : decode cX11_exchange 122 = .ok (.iload 5, 2) := by decide +kernel
theorem dX11_exchange_124 : decode cX11_exchange 124 = .ok (.iadd, 1) := by decide +kernel
theorem dX11_exchange_125 : decode cX11_exchange 125 = .ok (.istore_n 2, 1) := by decide +kernel
theorem dX11_exchange_126 : decode cX11_exchange 126 = .ok (.iload 6, 2) := by decide +kernel
theorem dX11_exchange_128 : decode cX11_exchange 128 = .ok (.istore_n 3, 1) := by decide +kernel
theorem dX11_exchange_129 : decode cX11_exchange 129 = .ok (.iinc 5 1, 3) := by decide +kernel
theorem dX11_exchange_132 : decode cX11_exchange 132 = .ok (.goto (-68), 3) := by decide +kernel
theorem dX11_exchange_135 : decode cX11_exchange 135 = .ok (.iinc 4 1, 3) := by decide +kernel
theorem dX11_exchange_138 : decode cX11_exchange 138 = .ok (.goto (-89), 3) := by decide +kernel
theorem dX11_exchange_141 : decode cX11_exchange 141 = .ok (.iload_n 1, 1) := by decide +kernel
theorem dX11_exchange_142 : decode cX11_exchange 142 = .ok (.ifCond .ne 7, 3) := by decide +kernel
theorem dX11_exchange_145 : decode cX11_exchange 145 = .ok (.iload_n 2, 1) := by decide +kernel
theorem dX11_exchange_146 : decode cX11_exchange 146 = .ok (.goto 4, 3) := by decide +kernel
theorem dX11_exchange_149 : decode cX11_exchange 149 = .ok (.iload_n 3, 1) := by decide +kernel
theorem dX11_exchange_150 : decode cX11_exchange 150 = .ok (.ireturn, 1) := by decide +kernel
theorem dX11_lasts_0 : decode cX11_lasts 0 = .ok (.aload_n 0, 1) := by decide +kernel
theorem dX11_lasts_1 : decode cX11_lasts 1 = .ok (.iconst 0, 1) := by decide +kernel
theorem dX11_lasts_2 : decode cX11_lasts 2 = .ok (.putfield 119, 3) := by decide +kernel
theorem dX11_lasts_5 : decode cX11_lasts 5 = .ok (.aload_n 0, 1) := by decide +kernel
theorem dX11_lasts_6 : decode cX11_lasts 6 = .ok (.iload_n 1, 1) := by decide +kernel
theorem dX11_lasts_7 : decode cX11_lasts 7 = .ok (.invokevirtual 301, 3) := by decide +kernel
theorem dX11_lasts_10 : decode cX11_lasts 10 = .ok (.ifCond .eq 14, 3) := by decide +kernel
theorem dX11_lasts_13 : decode cX11_lasts 13 = .ok (.aload_n 0, 1) := by decide +kernel
theorem dX11_lasts_14 : decode cX11_lasts 14 = .ok (.getfield 58, 3) := by decide +kernel
theorem dX11_lasts_17 : decode cX11_lasts 17 = .ok (.iload_n 1, 1) := by decide +kernel
theorem dX11_lasts_18 : decode cX11_lasts 18 = .ok (.iaload, 1) := by decide +kernel
theorem dX11_lasts_19 : decode cX11_lasts 19 = .ok (.bipush 9, 2) := by decide +kernel
theorem dX11_lasts_21 : decode cX11_lasts 21 = .ok (.if_icmp .ne 5, 3) := by decide +kernel
theorem dX11_lasts_24 : decode cX11_lasts 24 = .ok (.iconst (-1), 1) := by decide +kernel
theorem dX11_lasts_25 : decode cX11_lasts 25 = .ok (.ireturn, 1) := by decide +kernel
theorem dX11_lasts_26 : decode cX11_lasts 26 = .ok (.aload_n 0, 1) := by decide +kernel
theorem dX11_lasts_27 : decode cX11_lasts 27 = .ok (.getfield 43, 3) := by decide +kernel
theorem dX11_lasts_30 : decode cX11_lasts 30 = .ok (.bipush 8, 2) := by decide +kernel
theorem dX11_lasts_32 : decode cX11_lasts 32 = .ok (.iload_n 1, 1) := by decide +kernel
theorem dX11_lasts_33 : decode cX11_lasts 33 = .ok (.imul, 1) := by decide +kernel
theorem dX11_lasts_34 : decode cX11_lasts 34 = .ok (.aload_n 0, 1) := by decide +kernel
theorem dX11_lasts_35 : decode cX11_lasts 35 = .ok (.getfield 58, 3) := by decide +kernel
theorem dX11_lasts_38 : decode cX11_lasts 38 = .ok (.iload_n 1, 1) := by decide +kernel
theorem dX11_lasts_39 : decode cX11_lasts 39 = .ok (.iaload, 1) := by decide +kernel
theorem dX11_lasts_40 : decode cX11_lasts 40 = .ok (.iadd, 1) := by decide +kernel
theorem dX11_lasts_41 : decode cX11_lasts 41 = .ok (.iaload, 1) := by decide +kernel
theorem dX11_lasts_42 : decode cX11_lasts 42 = .ok (.aload_n 0, 1) := by decide +kernel
theorem dX11_lasts_43 : decode cX11_lasts 43 = .ok (.getfield 49, 3) := by decide +kernel
theorem dX11_lasts_46 : decode cX11_lasts 46 = .ok (.iconst 0, 1) := by decide +kernel
theorem dX11_lasts_47 : decode cX11_lasts 47 = .ok (.iaload, 1) := by decide +kernel
theorem dX11_lasts_48 : decode cX11_lasts 48 = .ok (.idiv, 1) := by decide +kernel
theorem dX11_lasts_49 : decode cX11_lasts 49 = .ok (.istore_n 2, 1) := by decide +kernel
theorem dX11_lasts_50 : decode cX11_lasts 50 = .ok (.aload_n 0, 1) := by decide +kernel
theorem dX11_lasts_51 : decode cX11_lasts 51 = .ok (.getfield 55, 3) := by decide +kernel
theorem dX11_lasts_54 : decode cX11_lasts 54 = .ok (.aload_n 0, 1) := by decide +kernel
theorem dX11_lasts_55 : decode cX11_lasts 55 = .ok (.getfield 289, 3) := by decide +kernel
theorem dX11_lasts_58 : decode cX11_lasts 58 = .ok (.iconst 1, 1) := by decide +kernel
theorem dX11_lasts_59 : decode cX11_lasts 59 = .ok (.isub, 1) := by decide +kernel
theorem dX11_lasts_60 : decode cX11_lasts 60 = .ok (.iaload, 1) := by decide +kernel
theorem dX11_lasts_61 : decode cX11_lasts 61 = .ok (.iload_n 1, 1) := by decide +kernel
theorem dX11_lasts_62 : decode cX11_lasts 62 = .ok (.if_icmp .ne 14, 3) := by decide +kernel
theorem dX11_lasts_65 : decode cX11_lasts 65 = .ok (.iload_n 2, 1) := by decide +kernel
theorem dX11_lasts_66 : decode cX11_lasts 66 = .ok (.ifCond .ne 7, 3) := by decide +kernel
theorem dX11_lasts_69 : decode cX11_lasts 69 = .ok (.iconst 0, 1) := by decide +kernel
theorem dX11_lasts_70 : decode cX11_lasts 70 = .ok (.goto 5, 3) := by decide +kernel
theorem dX11_lasts_73 : decode cX11_lasts 73 = .ok (.bipush 99, 2) := by decide +kernel
theorem dX11_lasts_75 : decode cX11_lasts 75 = .ok (.ireturn, 1) := by decide +kernel
theorem dX11_lasts_76 : decode cX11_lasts 76 = .ok (.bipush 99, 2) := by decide +kernel
theorem dX11_lasts_78 : decode cX11_lasts 78 = .ok (.iload_n 2, 1) := by decide +kernel
theorem dX11_lasts_79 : decode cX11_lasts 79 = .ok (.invokestatic 335, 3) := by decide +kernel
theorem dX11_lasts_82 : decode cX11_lasts 82 = .ok (.ireturn, 1) := by decide +kernel
theorem dX11_image_0 : decode cX11_image 0 = .ok (.aload_n 0, 1) := by decide +kernel
theorem dX11_image_1 : decode cX11_image 1 = .ok (.iconst 0, 1) := by decide +kernel
theorem dX11_image_2 : decode cX11_image 2 = .ok (.putfield 119, 3) := by decide +kernel
theorem dX11_image_5 : decode cX11_image 5 = .ok (.aload_n 0, 1) := by decide +kernel
theorem dX11_image_6 : decode cX11_image 6 = .ok (.getfield 289, 3) := by decide +kernel
theorem dX11_image_9 : decode cX11_image 9 = .ok (.ifCond .ne 5, 3) := by decide +kernel
theorem dX11_image_12 : decode cX11_image 12 = .ok (.iconst (-1), 1) := by decide +kernel
theorem dX11_image_13 : decode cX11_image 13 = .ok (.ireturn, 1) := by decide +kernel
theorem dX11_image_14 : decode cX11_image 14 = .ok (.iconst 0, 1) := by decide +kernel
theorem dX11_image_15 : decode cX11_image 15 = .ok (.istore_n 1, 1) := by decide +kernel
theorem dX11_image_16 : decode cX11_image 16 = .ok (.iload_n 1, 1) := by decide +kernel
theorem dX11_image_17 : decode cX11_image 17 = .ok (.bipush 48, 2) := by decide +kernel
theorem dX11_image_19 : decode cX11_image 19 = .ok (.if_icmp .ge 21, 3) := by decide +kernel
theorem dX11_image_22 : decode cX11_image 22 = .ok (.aload_n 0, 1) := by decide +kernel
theorem dX11_image_23 : decode cX11_image 23 = .ok (.getfield 107, 3) := by decide +kernel
theorem dX11_image_26 : decode cX11_image 26 = .ok (.iload_n 1, 1) := by decide +kernel
theorem dX11_image_27 : decode cX11_image 27 = .ok (.aload_n 0, 1) := by decide +kernel
theorem dX11_image_28 : decode cX11_image 28 = .ok (.getfield 43, 3) := by decide +kernel
theorem dX11_image_31 : decode cX11_image 31 = .ok (.iload_n 1, 1) := by decide +kernel
theorem dX11_image_32 : decode cX11_image 32 = .ok (.iaload, 1) := by decide +kernel
theorem dX11_image_33 : decode cX11_image 33 = .ok (.iastore, 1) := by decide +kernel
theorem dX11_image_34 : decode cX11_image 34 = .ok (.iinc 1 1, 3) := by decide +kernel
theorem dX11_image_37 : decode cX11_image 37 = .ok (.goto (-21), 3) := by decide +kernel
theorem dX11_image_40 : decode cX11_image 40 = .ok (.iconst 0, 1) := by decide +kernel
theorem dX11_image_41 : decode cX11_image 41 = .ok (.istore_n 1, 1) := by decide +kernel
theorem dX11_image_42 : decode cX11_image 42 = .ok (.iload_n 1, 1) := by decide +kernel
theorem dX11_image_43 : decode cX11_image 43 = .ok (.bipush 6, 2) := by decide +kernel
theorem dX11_image_45 : decode cX11_image 45 = .ok (.if_icmp .ge 45, 3) := by decide +kernel
theorem dX11_image_48 : decode cX11_image 48 = .ok (.aload_n 0, 1) := by decide +kernel
theorem dX11_image_49 : decode cX11_image 49 = .ok (.getfield 110, 3) := by decide +kernel
theorem dX11_image_52 : decode cX11_image 52 = .ok (.iload_n 1, 1) := by decide +kernel
theorem dX11_image_53 : decode cX11_image 53 = .ok (.aload_n 0, 1) := by decide +kernel
theorem dX11_image_54 : decode cX11_image 54 = .ok (.getfield 61, 3) := by decide +kernel
theorem dX11_image_57 : decode cX11_image 57 = .ok (.iload_n 1, 1) := by decide +kernel
theorem dX11_image_58 : decode cX11_image 58 = .ok (.iaload, 1) := by decide +kernel
theorem dX11_image_59 : decode cX11_image 59 = .ok (.iastore, 1) := by decide +kernel
theorem dX11_image_60 : decode cX11_image 60 = .ok (.aload_n 0, 1) := by decide +kernel
theorem dX11_image_61 : decode cX11_image 61 = .ok (.getfield 113, 3) := by decide +kernel
theorem dX11_image_64 : decode cX11_image 64 = .ok (.iload_n 1, 1) := by decide +kernel
theorem dX11_image_65 : decode cX11_image 65 = .ok (.aload_n 0, 1) := by decide +kernel
theorem dX11_image_66 : decode cX11_image 66 = .ok (.getfield 55, 3) := by decide +kernel
theorem dX11_image_69 : decode cX11_image 69 = .ok (.iload_n 1, 1) := by decide +kernel
theorem dX11_image_70 : decode cX11_image 70 = .ok (.iaload, 1) := by decide +kernel
theorem dX11_image_71 : decode cX11_image 71 = .ok (.iastore, 1) := by decide +kernel
theorem dX11_image_72 : decode cX11_image 72 = .ok (.aload_n 0, 1) := by decide +kernel
theorem dX11_image_73 : decode cX11_image 73 = .ok (.getfield 116, 3) := by decide +kernel
theorem dX11_image_76 : decode cX11_image 76 = .ok (.iload_n 1, 1) := by decide +kernel
theorem dX11_image_77 : decode cX11_image 77 = .ok (.aload_n 0, 1) := by decide +kernel
theorem dX11_image_78 : decode cX11_image 78 = .ok (.getfield 58, 3) := by decide +kernel
theorem dX11_image_81 : decode cX11_image 81 = .ok (.iload_n 1, 1) := by decide +kernel
theorem dX11_image_82 : decode cX11_image 82 = .ok (.iaload, 1) := by decide +kernel
theorem dX11_image_83 : decode cX11_image 83 = .ok (.iastore, 1) := by decide +kernel
theorem dX11_image_84 : decode cX11_image 84 = .ok (.iinc 1 1, 3) := by decide +kernel
theorem dX11_image_87 : decode cX11_image 87 = .ok (.goto (-45), 3) := by decide +kernel
theorem dX11_image_90 : decode cX11_image 90 = .ok (.aload_n 0, 1) := by decide +kernel
theorem dX11_image_91 : decode cX11_image 91 = .ok (.aload_n 0, 1) := by decide +kernel
theorem dX11_image_92 : decode cX11_image 92 = .ok (.getfield 292, 3) := by decide +kernel
theorem dX11_image_95 : decode cX11_image 95 = .ok (.putfield 394, 3) := by decide +kernel
theorem dX11_image_98 : decode cX11_image 98 = .ok (.aload_n 0, 1) := by decide +kernel
theorem dX11_image_99 : decode cX11_image 99 = .ok (.iconst 1, 1) := by decide +kernel
theorem dX11_image_100 : decode cX11_image 100 = .ok (.putfield 298, 3) := by decide +kernel
theorem dX11_image_103 : decode cX11_image 103 = .ok (.aload_n 0, 1) := by decide +kernel
theorem dX11_image_104 : decode cX11_image 104 = .ok (.getfield 292, 3) := by decide +kernel
theorem dX11_image_107 : decode cX11_image 107 = .ok (.ireturn, 1) := by decide +kernel
theorem dX11_back_0 : decode cX11_back 0 = .ok (.aload_n 0, 1) := by decide +kernel
theorem dX11_back_1 : decode cX11_back 1 = .ok (.iconst 0, 1) := by decide +kernel
theorem dX11_back_2 : decode cX11_back 2 = .ok (.putfield 119, 3) := by decide +kernel
theorem dX11_back_5 : decode cX11_back 5 = .ok (.aload_n 0, 1) := by decide +kernel
theorem dX11_back_6 : decode cX11_back 6 = .ok (.getfield 298, 3) := by decide +kernel
theorem dX11_back_9 : decode cX11_back 9 = .ok (.ifCond .ne 5, 3) := by decide +kernel
theorem dX11_back_12 : decode cX11_back 12 = .ok (.iconst (-1), 1) := by decide +kernel
theorem dX11_back_13 : decode cX11_back 13 = .ok (.ireturn, 1) := by decide +kernel
theorem dX11_back_14 : decode cX11_back 14 = .ok (.iconst 0, 1) := by decide +kernel
theorem dX11_back_15 : decode cX11_back 15 = .ok (.istore_n 1, 1) := by decide +kernel
theorem dX11_back_16 : decode cX11_back 16 = .ok (.iload_n 1, 1) := by decide +kernel
theorem dX11_back_17 : decode cX11_back 17 = .ok (.bipush 48, 2) := by decide +kernel
theorem dX11_back_19 : decode cX11_back 19 = .ok (.if_icmp .ge 21, 3) := by decide +kernel
theorem dX11_back_22 : decode cX11_back 22 = .ok (.aload_n 0, 1) := by decide +kernel
theorem dX11_back_23 : decode cX11_back 23 = .ok (.getfield 43, 3) := by decide +kernel
theorem dX11_back_26 : decode cX11_back 26 = .ok (.iload_n 1, 1) := by decide +kernel
theorem dX11_back_27 : decode cX11_back 27 = .ok (.aload_n 0, 1) := by decide +kernel
theorem dX11_back_28 : decode cX11_back 28 = .ok (.getfield 107, 3) := by decide +kernel
theorem dX11_back_31 : decode cX11_back 31 = .ok (.iload_n 1, 1) := by decide +kernel
theorem dX11_back_32 : decode cX11_back 32 = .ok (.iaload, 1) := by decide +kernel
theorem dX11_back_33 : decode cX11_back 33 = .ok (.iastore, 1) := by decide +kernel
theorem dX11_back_34 : decode cX11_back 34 = .ok (.iinc 1 1, 3) := by decide +kernel
theorem dX11_back_37 : decode cX11_back 37 = .ok (.goto (-21), 3) := by decide +kernel
theorem dX11_back_40 : decode cX11_back 40 = .ok (.iconst 0, 1) := by decide +kernel
theorem dX11_back_41 : decode cX11_back 41 = .ok (.istore_n 1, 1) := by decide +kernel
theorem dX11_back_42 : decode cX11_back 42 = .ok (.iload_n 1, 1) := by decide +kernel
theorem dX11_back_43 : decode cX11_back 43 = .ok (.bipush 6, 2) := by decide +kernel
theorem dX11_back_45 : decode cX11_back 45 = .ok (.if_icmp .ge 45, 3) := by decide +kernel
theorem dX11_back_48 : decode cX11_back 48 = .ok (.aload_n 0, 1) := by decide +kernel
theorem dX11_back_49 : decode cX11_back 49 = .ok (.getfield 61, 3) := by decide +kernel
theorem dX11_back_52 : decode cX11_back 52 = .ok (.iload_n 1, 1) := by decide +kernel
theorem dX11_back_53 : decode cX11_back 53 = .ok (.aload_n 0, 1) := by decide +kernel
theorem dX11_back_54 : decode cX11_back 54 = .ok (.getfield 110, 3) := by decide +kernel
theorem dX11_back_57 : decode cX11_back 57 = .ok (.iload_n 1, 1) := by decide +kernel
theorem dX11_back_58 : decode cX11_back 58 = .ok (.iaload, 1) := by decide +kernel
theorem dX11_back_59 : decode cX11_back 59 = .ok (.iastore, 1) := by decide +kernel
theorem dX11_back_60 : decode cX11_back 60 = .ok (.aload_n 0, 1) := by decide +kernel
theorem dX11_back_61 : decode cX11_back 61 = .ok (.getfield 55, 3) := by decide +kernel
theorem dX11_back_64 : decode cX11_back 64 = .ok (.iload_n 1, 1) := by decide +kernel
theorem dX11_back_65 : decode cX11_back 65 = .ok (.aload_n 0, 1) := by decide +kernel
theorem dX11_back_66 : decode cX11_back 66 = .ok (.getfield 113, 3) := by decide +kernel
theorem dX11_back_69 : decode cX11_back 69 = .ok (.iload_n 1, 1) := by decide +kernel
theorem dX11_back_70 : decode cX11_back 70 = .ok (.iaload, 1) := by decide +kernel
theorem dX11_back_71 : decode cX11_back 71 = .ok (.iastore, 1) := by decide +kernel
theorem dX11_back_72 : decode cX11_back 72 = .ok (.aload_n 0, 1) := by decide +kernel
theorem dX11_back_73 : decode cX11_back 73 = .ok (.getfield 58, 3) := by decide +kernel
theorem dX11_back_76 : decode cX11_back 76 = .ok (.iload_n 1, 1) := by decide +kernel
theorem dX11_back_77 : decode cX11_back 77 = .ok (.aload_n 0, 1) := by decide +kernel
theorem dX11_back_78 : decode cX11_back 78 = .ok (.getfield 116, 3) := by decide +kernel
theorem dX11_back_81 : decode cX11_back 81 = .ok (.iload_n 1, 1) := by decide +kernel
theorem dX11_back_82 : decode cX11_back 82 = .ok (.iaload, 1) := by decide +kernel
theorem dX11_back_83 : decode cX11_back 83 = .ok (.iastore, 1) := by decide +kernel
theorem dX11_back_84 : decode cX11_back 84 = .ok (.iinc 1 1, 3) := by decide +kernel
theorem dX11_back_87 : decode cX11_back 87 = .ok (.goto (-45), 3) := by decide +kernel
theorem dX11_back_90 : decode cX11_back 90 = .ok (.aload_n 0, 1) := by decide +kernel
theorem dX11_back_91 : decode cX11_back 91 = .ok (.aload_n 0, 1) := by decide +kernel
theorem dX11_back_92 : decode cX11_back 92 = .ok (.getfield 394, 3) := by decide +kernel
theorem dX11_back_95 : decode cX11_back 95 = .ok (.putfield 292, 3) := by decide +kernel
theorem dX11_back_98 : decode cX11_back 98 = .ok (.aload_n 0, 1) := by decide +kernel
theorem dX11_back_99 : decode cX11_back 99 = .ok (.iconst 0, 1) := by decide +kernel
theorem dX11_back_100 : decode cX11_back 100 = .ok (.putfield 295, 3) := by decide +kernel
theorem dX11_back_103 : decode cX11_back 103 = .ok (.aload_n 0, 1) := by decide +kernel
theorem dX11_back_104 : decode cX11_back 104 = .ok (.getfield 292, 3) := by decide +kernel
theorem dX11_back_107 : decode cX11_back 107 = .ok (.ireturn, 1) := by decide +kernel
theorem dX11_digitsOf_0 : decode cX11_digitsOf 0 = .ok (.iconst 0, 1) := by decide +kernel
theorem dX11_digitsOf_1 : decode cX11_digitsOf 1 = .ok (.istore_n 2, 1) := by decide +kernel
theorem dX11_digitsOf_2 : decode cX11_digitsOf 2 = .ok (.iconst 0, 1) := by decide +kernel
theorem dX11_digitsOf_3 : decode cX11_digitsOf 3 = .ok (.istore_n 3, 1) := by decide +kernel
theorem dX11_digitsOf_4 : decode cX11_digitsOf 4 = .ok (.iload_n 3, 1) := by decide +kernel
theorem dX11_digitsOf_5 : decode cX11_digitsOf 5 = .ok (.aload_n 0, 1) := by decide +kernel
theorem dX11_digitsOf_6 : decode cX11_digitsOf 6 = .ok (.getfield 289, 3) := by decide +kernel
theorem dX11_digitsOf_9 : decode cX11_digitsOf 9 = .ok (.if_icmp .ge 18, 3) := by decide +kernel
theorem dX11_digitsOf_12 : decode cX11_digitsOf 12 = .ok (.bipush 10, 2) := by decide +kernel
theorem dX11_digitsOf_14 : decode cX11_digitsOf 14 = .ok (.iload_n 2, 1) := by decide +kernel
theorem dX11_digitsOf_15 : decode cX11_digitsOf 15 = .ok (.imul, 1) := by decide +kernel
theorem dX11_digitsOf_16 : decode cX11_digitsOf 16 = .ok (.aload_n 1, 1) := by decide +kernel
theorem dX11_digitsOf_17 : decode cX11_digitsOf 17 = .ok (.iload_n 3, 1) := by decide +kernel
theorem dX11_digitsOf_18 : decode cX11_digitsOf 18 = .ok (.iaload, 1) := by decide +kernel
theorem dX11_digitsOf_19 : decode cX11_digitsOf 19 = .ok (.iadd, 1) := by decide +kernel
theorem dX11_digitsOf_20 : decode cX11_digitsOf 20 = .ok (.istore_n 2, 1) := by decide +kernel
theorem dX11_digitsOf_21 : decode cX11_digitsOf 21 = .ok (.iinc 3 1, 3) := by decide +kernel
theorem dX11_digitsOf_24 : decode cX11_digitsOf 24 = .ok (.goto (-20), 3) := by decide +kernel
theorem dX11_digitsOf_27 : decode cX11_digitsOf 27 = .ok (.iload_n 2, 1) := by decide +kernel
theorem dX11_digitsOf_28 : decode cX11_digitsOf 28 = .ok (.ireturn, 1) := by decide +kernel
theorem dX11_count_0 : decode cX11_count 0 = .ok (.aload_n 0, 1) := by decide +kernel
theorem dX11_count_1 : decode cX11_count 1 = .ok (.iconst 0, 1) := by decide +kernel
theorem dX11_count_2 : decode cX11_count 2 = .ok (.putfield 119, 3) := by decide +kernel
theorem dX11_count_5 : decode cX11_count 5 = .ok (.iload_n 1, 1) := by decide +kernel
theorem dX11_count_6 : decode cX11_count 6 = .ok (.tableswitch 160 0 10 #[58, 63, 68, 73, 78, 83, 101, 119, 137, 142, 151], 58) := by decide +kernel
theorem dX11_count_64 : decode cX11_count 64 = .ok (.aload_n 0, 1) := by decide +kernel
theorem dX11_count_65 : decode cX11_count 65 = .ok (.getfield 289, 3) := by decide +kernel
theorem dX11_count_68 : decode cX11_count 68 = .ok (.ireturn, 1) := by decide +kernel
theorem dX11_count_69 : decode cX11_count 69 = .ok (.aload_n 0, 1) := by decide +kernel
theorem dX11_count_70 : decode cX11_count 70 = .ok (.getfield 284, 3) := by decide +kernel
theorem dX11_count_73 : decode cX11_count 73 = .ok (.ireturn, 1) := by decide +kernel
theorem dX11_count_74 : decode cX11_count 74 = .ok (.aload_n 0, 1) := by decide +kernel
theorem dX11_count_75 : decode cX11_count 75 = .ok (.getfield 132, 3) := by decide +kernel
theorem dX11_count_78 : decode cX11_count 78 = .ok (.ireturn, 1) := by decide +kernel
theorem dX11_count_79 : decode cX11_count 79 = .ok (.aload_n 0, 1) := by decide +kernel
theorem dX11_count_80 : decode cX11_count 80 = .ok (.getfield 292, 3) := by decide +kernel
theorem dX11_count_83 : decode cX11_count 83 = .ok (.ireturn, 1) := by decide +kernel
theorem dX11_count_84 : decode cX11_count 84 = .ok (.aload_n 0, 1) := by decide +kernel
theorem dX11_count_85 : decode cX11_count 85 = .ok (.getfield 64, 3) := by decide +kernel
theorem dX11_count_88 : decode cX11_count 88 = .ok (.ireturn, 1) := by decide +kernel
theorem dX11_count_89 : decode cX11_count 89 = .ok (.aload_n 0, 1) := by decide +kernel
theorem dX11_count_90 : decode cX11_count 90 = .ok (.getfield 289, 3) := by decide +kernel
theorem dX11_count_93 : decode cX11_count 93 = .ok (.ifCond .ne 7, 3) := by decide +kernel
theorem dX11_count_96 : decode cX11_count 96 = .ok (.iconst 0, 1) := by decide +kernel
theorem dX11_count_97 : decode cX11_count 97 = .ok (.goto 9, 3) := by decide +kernel
theorem dX11_count_100 : decode cX11_count 100 = .ok (.aload_n 0, 1) := by decide +kernel
theorem dX11_count_101 : decode cX11_count 101 = .ok (.getfield 49, 3) := by decide +kernel
theorem dX11_count_104 : decode cX11_count 104 = .ok (.iconst 0, 1) := by decide +kernel
theorem dX11_count_105 : decode cX11_count 105 = .ok (.iaload, 1) := by decide +kernel
theorem dX11_count_106 : decode cX11_count 106 = .ok (.ireturn, 1) := by decide +kernel
theorem dX11_count_107 : decode cX11_count 107 = .ok (.aload_n 0, 1) := by decide +kernel
theorem dX11_count_108 : decode cX11_count 108 = .ok (.getfield 289, 3) := by decide +kernel
theorem dX11_count_111 : decode cX11_count 111 = .ok (.ifCond .ne 7, 3) := by decide +kernel
theorem dX11_count_114 : decode cX11_count 114 = .ok (.iconst 0, 1) := by decide +kernel
theorem dX11_count_115 : decode cX11_count 115 = .ok (.goto 9, 3) := by decide +kernel
theorem dX11_count_118 : decode cX11_count 118 = .ok (.aload_n 0, 1) := by decide +kernel
theorem dX11_count_119 : decode cX11_count 119 = .ok (.getfield 49, 3) := by decide +kernel
theorem dX11_count_122 : decode cX11_count 122 = .ok (.iconst 1, 1) := by decide +kernel
theorem dX11_count_123 : decode cX11_count 123 = .ok (.iaload, 1) := by decide +kernel
theorem dX11_count_124 : decode cX11_count 124 = .ok (.ireturn, 1) := by decide +kernel
theorem dX11_count_125 : decode cX11_count 125 = .ok (.aload_n 0, 1) := by decide +kernel
theorem dX11_count_126 : decode cX11_count 126 = .ok (.getfield 289, 3) := by decide +kernel
theorem dX11_count_129 : decode cX11_count 129 = .ok (.ifCond .ne 7, 3) := by decide +kernel
theorem dX11_count_132 : decode cX11_count 132 = .ok (.iconst 0, 1) := by decide +kernel
theorem dX11_count_133 : decode cX11_count 133 = .ok (.goto 9, 3) := by decide +kernel
theorem dX11_count_136 : decode cX11_count 136 = .ok (.aload_n 0, 1) := by decide +kernel
theorem dX11_count_137 : decode cX11_count 137 = .ok (.getfield 49, 3) := by decide +kernel
theorem dX11_count_140 : decode cX11_count 140 = .ok (.iconst 2, 1) := by decide +kernel
theorem dX11_count_141 : decode cX11_count 141 = .ok (.iaload, 1) := by decide +kernel
theorem dX11_count_142 : decode cX11_count 142 = .ok (.ireturn, 1) := by decide +kernel
theorem dX11_count_143 : decode cX11_count 143 = .ok (.aload_n 0, 1) := by decide +kernel
theorem dX11_count_144 : decode cX11_count 144 = .ok (.getfield 295, 3) := by decide +kernel
theorem dX11_count_147 : decode cX11_count 147 = .ok (.ireturn, 1) := by decide +kernel
theorem dX11_count_148 : decode cX11_count 148 = .ok (.aload_n 0, 1) := by decide +kernel
theorem dX11_count_149 : decode cX11_count 149 = .ok (.aload_n 0, 1) := by decide +kernel
theorem dX11_count_150 : decode cX11_count 150 = .ok (.getfield 55, 3) := by decide +kernel
theorem dX11_count_153 : decode cX11_count 153 = .ok (.invokevirtual 397, 3) := by decide +kernel
theorem dX11_count_156 : decode cX11_count 156 = .ok (.ireturn, 1) := by decide +kernel
theorem dX11_count_157 : decode cX11_count 157 = .ok (.aload_n 0, 1) := by decide +kernel
theorem dX11_count_158 : decode cX11_count 158 = .ok (.aload_n 0, 1) := by decide +kernel
theorem dX11_count_159 : decode cX11_count 159 = .ok (.getfield 58, 3) := by decide +kernel
theorem dX11_count_162 : decode cX11_count 162 = .ok (.invokevirtual 397, 3) := by decide +kernel
theorem dX11_count_165 : decode cX11_count 165 = .ok (.ireturn, 1) := by decide +kernel
theorem dX11_count_166 : decode cX11_count 166 = .ok (.ldc_w 337, 3) := by decide +kernel
theorem dX11_count_169 : decode cX11_count 169 = .ok (.ireturn, 1) := by decide +kernel
