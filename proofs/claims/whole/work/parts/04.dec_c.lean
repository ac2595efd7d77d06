theorem dX11_init_0 : decode cX11_init 0 = .ok (.aload_n 0, 1) := by decide +kernel
theorem dX11_init_1 : decode cX11_init 1 = .ok (.invokespecial 3, 3) := by decide +kernel
theorem dX11_init_4 : decode cX11_init 4 = .ok (.aload_n 0, 1) := by decide +kernel
theorem dX11_init_5 : decode cX11_init 5 = .ok (.iconst 4, 1) := by decide +kernel
theorem dX11_init_6 : decode cX11_init 6 = .ok (.anewarray 9, 3) := by decide +kernel
theorem dX11_init_9 : decode cX11_init 9 = .ok (.dup, 1) := by decide +kernel
theorem dX11_init_10 : decode cX11_init 10 = .ok (.iconst 0, 1) := by decide +kernel
theorem dX11_init_11 : decode cX11_init 11 = .ok (.ldc 11, 2) := by decide +kernel
theorem dX11_init_13 : decode cX11_init 13 = .ok (.aastore, 1) := by decide +kernel
theorem dX11_init_14 : decode cX11_init 14 = .ok (.dup, 1) := by decide +kernel
theorem dX11_init_15 : decode cX11_init 15 = .ok (.iconst 1, 1) := by decide +kernel
theorem dX11_init_16 : decode cX11_init 16 = .ok (.ldc 13, 2) := by decide +kernel
theorem dX11_init_18 : decode cX11_init 18 = .ok (.aastore, 1) := by decide +kernel
theorem dX11_init_19 : decode cX11_init 19 = .ok (.dup, 1) := by decide +kernel
theorem dX11_init_20 : decode cX11_init 20 = .ok (.iconst 2, 1) := by decide +kernel
theorem dX11_init_21 : decode cX11_init 21 = .ok (.ldc 15, 2) := by decide +kernel
theorem dX11_init_23 : decode cX11_init 23 = .ok (.aastore, 1) := by decide +kernel
theorem dX11_init_24 : decode cX11_init 24 = .ok (.dup, 1) := by decide +kernel
theorem dX11_init_25 : decode cX11_init 25 = .ok (.iconst 3, 1) := by decide +kernel
theorem dX11_init_26 : decode cX11_init 26 = .ok (.ldc 17, 2) := by decide +kernel
theorem dX11_init_28 : decode cX11_init 28 = .ok (.aastore, 1) := by decide +kernel
theorem dX11_init_29 : decode cX11_init 29 = .ok (.putfield 19, 3) := by decide +kernel
theorem dX11_init_32 : decode cX11_init 32 = .ok (.aload_n 0, 1) := by decide +kernel
theorem dX11_init_33 : decode cX11_init 33 = .ok (.bipush 9, 2) := by decide +kernel
theorem dX11_init_35 : decode cX11_init 35 = .ok (.anewarray 9, 3) := by decide +kernel
theorem dX11_init_38 : decode cX11_init 38 = .ok (.dup, 1) := by decide +kernel
theorem dX11_init_39 : decode cX11_init 39 = .ok (.iconst 0, 1) := by decide +kernel
theorem dX11_init_40 : decode cX11_init 40 = .ok (.ldc 23, 2) := by decide +kernel
theorem dX11_init_42 : decode cX11_init 42 = .ok (.aastore, 1) := by decide +kernel
theorem dX11_init_43 : decode cX11_init 43 = .ok (.dup, 1) := by decide +kernel
theorem dX11_init_44 : decode cX11_init 44 = .ok (.iconst 1, 1) := by decide +kernel
theorem dX11_init_45 : decode cX11_init 45 = .ok (.ldc 25, 2) := by decide +kernel
theorem dX11_init_47 : decode cX11_init 47 = .ok (.aastore, 1) := by decide +kernel
theorem dX11_init_48 : decode cX11_init 48 = .ok (.dup, 1) := by decide +kernel
theorem dX11_init_49 : decode cX11_init 49 = .ok (.iconst 2, 1) := by decide +kernel
theorem dX11_init_50 : decode cX11_init 50 = .ok (.ldc 27, 2) := by decide +kernel
theorem dX11_init_52 : decode cX11_init 52 = .ok (.aastore, 1) := by decide +kernel
theorem dX11_init_53 : decode cX11_init 53 = .ok (.dup, 1) := by decide +kernel
theorem dX11_init_54 : decode cX11_init 54 = .ok (.iconst 3, 1) := by decide +kernel
theorem dX11_init_55 : decode cX11_init 55 = .ok (.ldc 29, 2) := by decide +kernel
theorem dX11_init_57 : decode cX11_init 57 = .ok (.aastore, 1) := by decide +kernel
theorem dX11_init_58 : decode cX11_init 58 = .ok (.dup, 1) := by decide +kernel
theorem dX11_init_59 : decode cX11_init 59 = .ok (.iconst 4, 1) := by decide +kernel
theorem dX11_init_60 : decode cX11_init 60 = .ok (.ldc 31, 2) := by decide +kernel
theorem dX11_init_62 : decode cX11_init 62 = .ok (.aastore, 1) := by decide +kernel
theorem dX11_init_63 : decode cX11_init 63 = .ok (.dup, 1) := by decide +kernel
theorem dX11_init_64 : decode cX11_init 64 = .ok (.iconst 5, 1) := by decide +kernel
theorem dX11_init_65 : decode cX11_init 65 = .ok (.ldc 33, 2) := by decide +kernel
theorem dX11_init_67 : decode cX11_init 67 = .ok (.aastore, 1) := by decide +kernel
theorem dX11_init_68 : decode cX11_init 68 = .ok (.dup, 1) := by decide +kernel
theorem dX11_init_69 : decode cX11_init 69 = .ok (.bipush 6, 2) := by decide +kernel
theorem dX11_init_71 : decode cX11_init 71 = .ok (.ldc 35, 2) := by decide +kernel
theorem dX11_init_73 : decode cX11_init 73 = .ok (.aastore, 1) := by decide +kernel
theorem dX11_init_74 : decode cX11_init 74 = .ok (.dup, 1) := by decide +kernel
theorem dX11_init_75 : decode cX11_init 75 = .ok (.bipush 7, 2) := by decide +kernel
theorem dX11_init_77 : decode cX11_init 77 = .ok (.ldc 37, 2) := by decide +kernel
theorem dX11_init_79 : decode cX11_init 79 = .ok (.aastore, 1) := by decide +kernel
theorem dX11_init_80 : decode cX11_init 80 = .ok (.dup, 1) := by decide +kernel
theorem dX11_init_81 : decode cX11_init 81 = .ok (.bipush 8, 2) := by decide +kernel
theorem dX11_init_83 : decode cX11_init 83 = .ok (.ldc 39, 2) := by decide +kernel
theorem dX11_init_85 : decode cX11_init 85 = .ok (.aastore, 1) := by decide +kernel
theorem dX11_init_86 : decode cX11_init 86 = .ok (.putfield 41, 3) := by decide +kernel
theorem dX11_init_89 : decode cX11_init 89 = .ok (.aload_n 0, 1) := by decide +kernel
theorem dX11_init_90 : decode cX11_init 90 = .ok (.bipush 20, 2) := by decide +kernel
theorem dX11_init_92 : decode cX11_init 92 = .ok (.newarray .int, 2) := by decide +kernel
theorem dX11_init_94 : decode cX11_init 94 = .ok (.dup, 1) := by decide +kernel
theorem dX11_init_95 : decode cX11_init 95 = .ok (.iconst 0, 1) := by decide +kernel
theorem dX11_init_96 : decode cX11_init 96 = .ok (.iconst 4, 1) := by decide +kernel
theorem dX11_init_97 : decode cX11_init 97 = .ok (.iastore, 1) := by decide +kernel
theorem dX11_init_98 : decode cX11_init 98 = .ok (.dup, 1) := by decide +kernel
theorem dX11_init_99 : decode cX11_init 99 = .ok (.iconst 1, 1) := by decide +kernel
theorem dX11_init_100 : decode cX11_init 100 = .ok (.bipush 12, 2) := by decide +kernel
theorem dX11_init_102 : decode cX11_init 102 = .ok (.iastore, 1) := by decide +kernel
theorem dX11_init_103 : decode cX11_init 103 = .ok (.dup, 1) := by decide +kernel
theorem dX11_init_104 : decode cX11_init 104 = .ok (.iconst 2, 1) := by decide +kernel
theorem dX11_init_105 : decode cX11_init 105 = .ok (.iconst 4, 1) := by decide +kernel
theorem dX11_init_106 : decode cX11_init 106 = .ok (.iastore, 1) := by decide +kernel
theorem dX11_init_107 : decode cX11_init 107 = .ok (.dup, 1) := by decide +kernel
theorem dX11_init_108 : decode cX11_init 108 = .ok (.iconst 3, 1) := by decide +kernel
theorem dX11_init_109 : decode cX11_init 109 = .ok (.iconst 1, 1) := by decide +kernel
theorem dX11_init_110 : decode cX11_init 110 = .ok (.iastore, 1) := by decide +kernel
theorem dX11_init_111 : decode cX11_init 111 = .ok (.dup, 1) := by decide +kernel
theorem dX11_init_112 : decode cX11_init 112 = .ok (.iconst 4, 1) := by decide +kernel
theorem dX11_init_113 : decode cX11_init 113 = .ok (.bipush 8, 2) := by decide +kernel
theorem dX11_init_115 : decode cX11_init 115 = .ok (.iastore, 1) := by decide +kernel
theorem dX11_init_116 : decode cX11_init 116 = .ok (.dup, 1) := by decide +kernel
theorem dX11_init_117 : decode cX11_init 117 = .ok (.iconst 5, 1) := by decide +kernel
theorem dX11_init_118 : decode cX11_init 118 = .ok (.iconst 0, 1) := by decide +kernel
theorem dX11_init_119 : decode cX11_init 119 = .ok (.iastore, 1) := by decide +kernel
theorem dX11_init_120 : decode cX11_init 120 = .ok (.dup, 1) := by decide +kernel
theorem dX11_init_121 : decode cX11_init 121 = .ok (.bipush 6, 2) := by decide +kernel
theorem dX11_init_123 : decode cX11_init 123 = .ok (.iconst 1, 1) := by decide +kernel
theorem dX11_init_124 : decode cX11_init 124 = .ok (.iastore, 1) := by decide +kernel
theorem dX11_init_125 : decode cX11_init 125 = .ok (.dup, 1) := by decide +kernel
theorem dX11_init_126 : decode cX11_init 126 = .ok (.bipush 7, 2) := by decide +kernel
theorem dX11_init_128 : decode cX11_init 128 = .ok (.iconst 1, 1) := by decide +kernel
theorem dX11_init_129 : decode cX11_init 129 = .ok (.iastore, 1) := by decide +kernel
theorem dX11_init_130 : decode cX11_init 130 = .ok (.dup, 1) := by decide +kernel
theorem dX11_init_131 : decode cX11_init 131 = .ok (.bipush 8, 2) := by decide +kernel
theorem dX11_init_133 : decode cX11_init 133 = .ok (.iconst 0, 1) := by decide +kernel
theorem dX11_init_134 : decode cX11_init 134 = .ok (.iastore, 1) := by decide +kernel
theorem dX11_init_135 : decode cX11_init 135 = .ok (.dup, 1) := by decide +kernel
theorem dX11_init_136 : decode cX11_init 136 = .ok (.bipush 9, 2) := by decide +kernel
theorem dX11_init_138 : decode cX11_init 138 = .ok (.iconst 0, 1) := by decide +kernel
theorem dX11_init_139 : decode cX11_init 139 = .ok (.iastore, 1) := by decide +kernel
theorem dX11_init_140 : decode cX11_init 140 = .ok (.dup, 1) := by decide +kernel
theorem dX11_init_141 : decode cX11_init 141 = .ok (.bipush 10, 2) := by decide +kernel
theorem dX11_init_143 : decode cX11_init 143 = .ok (.iconst 0, 1) := by decide +kernel
theorem dX11_init_144 : decode cX11_init 144 = .ok (.iastore, 1) := by decide +kernel
theorem dX11_init_145 : decode cX11_init 145 = .ok (.dup, 1) := by decide +kernel
theorem dX11_init_146 : decode cX11_init 146 = .ok (.bipush 11, 2) := by decide +kernel
theorem dX11_init_148 : decode cX11_init 148 = .ok (.iconst 0, 1) := by decide +kernel
theorem dX11_init_149 : decode cX11_init 149 = .ok (.iastore, 1) := by decide +kernel
theorem dX11_init_150 : decode cX11_init 150 = .ok (.dup, 1) := by decide +kernel
theorem dX11_init_151 : decode cX11_init 151 = .ok (.bipush 12, 2) := by decide +kernel
theorem dX11_init_153 : decode cX11_init 153 = .ok (.iconst 0, 1) := by decide +kernel
theorem dX11_init_154 : decode cX11_init 154 = .ok (.iastore, 1) := by decide +kernel
theorem dX11_init_155 : decode cX11_init 155 = .ok (.dup, 1) := by decide +kernel
theorem dX11_init_156 : decode cX11_init 156 = .ok (.bipush 13, 2) := by decide +kernel
theorem dX11_init_158 : decode cX11_init 158 = .ok (.iconst 0, 1) := by decide +kernel
theorem dX11_init_159 : decode cX11_init 159 = .ok (.iastore, 1) := by decide +kernel
theorem dX11_init_160 : decode cX11_init 160 = .ok (.dup, 1) := by decide +kernel
theorem dX11_init_161 : decode cX11_init 161 = .ok (.bipush 14, 2) := by decide +kernel
theorem dX11_init_163 : decode cX11_init 163 = .ok (.iconst 0, 1) := by decide +kernel
theorem dX11_init_164 : decode cX11_init 164 = .ok (.iastore, 1) := by decide +kernel
theorem dX11_init_165 : decode cX11_init 165 = .ok (.dup, 1) := by decide +kernel
theorem dX11_init_166 : decode cX11_init 166 = .ok (.bipush 15, 2) := by decide +kernel
theorem dX11_init_168 : decode cX11_init 168 = .ok (.iconst 0, 1) := by decide +kernel
theorem dX11_init_169 : decode cX11_init 169 = .ok (.iastore, 1) := by decide +kernel
theorem dX11_init_170 : decode cX11_init 170 = .ok (.dup, 1) := by decide +kernel
theorem dX11_init_171 : decode cX11_init 171 = .ok (.bipush 16, 2) := by decide +kernel
theorem dX11_init_173 : decode cX11_init 173 = .ok (.iconst 0, 1) := by decide +kernel
theorem dX11_init_174 : decode cX11_init 174 = .ok (.iastore, 1) := by decide +kernel
theorem dX11_init_175 : decode cX11_init 175 = .ok (.dup, 1) := by decide +kernel
theorem dX11_init_176 : decode cX11_init 176 = .ok (.bipush 17, 2) := by decide +kernel
theorem dX11_init_178 : decode cX11_init 178 = .ok (.iconst 0, 1) := by decide +kernel
theorem dX11_init_179 : decode cX11_init 179 = .ok (.iastore, 1) := by decide +kernel
theorem dX11_init_180 : decode cX11_init 180 = .ok (.dup, 1) := by decide +kernel
theorem dX11_init_181 : decode cX11_init 181 = .ok (.bipush 18, 2) := by decide +kernel
theorem dX11_init_183 : decode cX11_init 183 = .ok (.iconst 0, 1) := by decide +kernel
theorem dX11_init_184 : decode cX11_init 184 = .ok (.iastore, 1) := by decide +kernel
theorem dX11_init_185 : decode cX11_init 185 = .ok (.dup, 1) := by decide +kernel
theorem dX11_init_186 : decode cX11_init 186 = .ok (.bipush 19, 2) := by decide +kernel
theorem dX11_init_188 : decode cX11_init 188 = .ok (.iconst 0, 1) := by decide +kernel
theorem dX11_init_189 : decode cX11_init 189 = .ok (.iastore, 1) := by decide +kernel
theorem dX11_init_190 : decode cX11_init 190 = .ok (.putfield 44, 3) := by decide +kernel
theorem dX11_init_193 : decode cX11_init 193 = .ok (.aload_n 0, 1) := by decide +kernel
theorem dX11_init_194 : decode cX11_init 194 = .ok (.bipush 32, 2) := by decide +kernel
theorem dX11_init_196 : decode cX11_init 196 = .ok (.newarray .int, 2) := by decide +kernel
theorem dX11_init_198 : decode cX11_init 198 = .ok (.putfield 48, 3) := by decide +kernel
theorem dX11_init_201 : decode cX11_init 201 = .ok (.aload_n 0, 1) := by decide +kernel
theorem dX11_init_202 : decode cX11_init 202 = .ok (.sipush 1400, 3) := by decide +kernel
theorem dX11_init_205 : decode cX11_init 205 = .ok (.newarray .int, 2) := by decide +kernel
theorem dX11_init_207 : decode cX11_init 207 = .ok (.putfield 50, 3) := by decide +kernel
theorem dX11_init_210 : decode cX11_init 210 = .ok (.aload_n 0, 1) := by decide +kernel
theorem dX11_init_211 : decode cX11_init 211 = .ok (.sipush 1400, 3) := by decide +kernel
theorem dX11_init_214 : decode cX11_init 214 = .ok (.newarray .int, 2) := by decide +kernel
theorem dX11_init_216 : decode cX11_init 216 = .ok (.putfield 53, 3) := by decide +kernel
theorem dX11_init_219 : decode cX11_init 219 = .ok (.aload_n 0, 1) := by decide +kernel
theorem dX11_init_220 : decode cX11_init 220 = .ok (.iconst 3, 1) := by decide +kernel
theorem dX11_init_221 : decode cX11_init 221 = .ok (.newarray .int, 2) := by decide +kernel
theorem dX11_init_223 : decode cX11_init 223 = .ok (.putfield 56, 3) := by decide +kernel
theorem dX11_init_226 : decode cX11_init 226 = .ok (.aload_n 0, 1) := by decide +kernel
theorem dX11_init_227 : decode cX11_init 227 = .ok (.sipush 665, 3) := by decide +kernel
theorem dX11_init_230 : decode cX11_init 230 = .ok (.newarray .int, 2) := by decide +kernel
theorem dX11_init_232 : decode cX11_init 232 = .ok (.putfield 59, 3) := by decide +kernel
theorem dX11_init_235 : decode cX11_init 235 = .ok (.aload_n 0, 1) := by decide +kernel
theorem dX11_init_236 : decode cX11_init 236 = .ok (.sipush 700, 3) := by decide +kernel
theorem dX11_init_239 : decode cX11_init 239 = .ok (.newarray .int, 2) := by decide +kernel
theorem dX11_init_241 : decode cX11_init 241 = .ok (.putfield 62, 3) := by decide +kernel
theorem dX11_init_244 : decode cX11_init 244 = .ok (.aload_n 0, 1) := by decide +kernel
theorem dX11_init_245 : decode cX11_init 245 = .ok (.iconst (-1), 1) := by decide +kernel
theorem dX11_init_246 : decode cX11_init 246 = .ok (.putfield 65, 3) := by decide +kernel
theorem dX11_init_249 : decode cX11_init 249 = .ok (.aload_n 0, 1) := by decide +kernel
theorem dX11_init_250 : decode cX11_init 250 = .ok (.iconst 4, 1) := by decide +kernel
theorem dX11_init_251 : decode cX11_init 251 = .ok (.newarray .int, 2) := by decide +kernel
theorem dX11_init_253 : decode cX11_init 253 = .ok (.putfield 69, 3) := by decide +kernel
theorem dX11_init_256 : decode cX11_init 256 = .ok (.aload_n 0, 1) := by decide +kernel
theorem dX11_init_257 : decode cX11_init 257 = .ok (.bipush 64, 2) := by decide +kernel
theorem dX11_init_259 : decode cX11_init 259 = .ok (.newarray .int, 2) := by decide +kernel
theorem dX11_init_261 : decode cX11_init 261 = .ok (.putfield 72, 3) := by decide +kernel
theorem dX11_init_264 : decode cX11_init 264 = .ok (.aload_n 0, 1) := by decide +kernel
theorem dX11_init_265 : decode cX11_init 265 = .ok (.sipush 8192, 3) := by decide +kernel
theorem dX11_init_268 : decode cX11_init 268 = .ok (.newarray .int, 2) := by decide +kernel
theorem dX11_init_270 : decode cX11_init 270 = .ok (.putfield 75, 3) := by decide +kernel
theorem dX11_init_273 : decode cX11_init 273 = .ok (.aload_n 0, 1) := by decide +kernel
theorem dX11_init_274 : decode cX11_init 274 = .ok (.sipush 2048, 3) := by decide +kernel
theorem dX11_init_277 : decode cX11_init 277 = .ok (.newarray .int, 2) := by decide +kernel
theorem dX11_init_279 : decode cX11_init 279 = .ok (.putfield 78, 3) := by decide +kernel
theorem dX11_init_282 : decode cX11_init 282 = .ok (.aload_n 0, 1) := by decide +kernel
theorem dX11_init_283 : decode cX11_init 283 = .ok (.sipush 2048, 3) := by decide +kernel
theorem dX11_init_286 : decode cX11_init 286 = .ok (.newarray .boolean, 2) := by decide +kernel
theorem dX11_init_288 : decode cX11_init 288 = .ok (.putfield 81, 3) := by decide +kernel
theorem dX11_init_291 : decode cX11_init 291 = .ok (.aload_n 0, 1) := by decide +kernel
theorem dX11_init_292 : decode cX11_init 292 = .ok (.sipush 26600, 3) := by decide +kernel
theorem dX11_init_295 : decode cX11_init 295 = .ok (.newarray .int, 2) := by decide +kernel
theorem dX11_init_297 : decode cX11_init 297 = .ok (.putfield 85, 3) := by decide +kernel
theorem dX11_init_300 : decode cX11_init 300 = .ok (.aload_n 0, 1) := by decide +kernel
theorem dX11_init_301 : decode cX11_init 301 = .ok (.sipush 665, 3) := by decide +kernel
theorem dX11_init_304 : decode cX11_init 304 = .ok (.newarray .int, 2) := by decide +kernel
theorem dX11_init_306 : decode cX11_init 306 = .ok (.putfield 88, 3) := by decide +kernel
theorem dX11_init_309 : decode cX11_init 309 = .ok (.aload_n 0, 1) := by decide +kernel
theorem dX11_init_310 : decode cX11_init 310 = .ok (.sipush 441, 3) := by decide +kernel
theorem dX11_init_313 : decode cX11_init 313 = .ok (.newarray .int, 2) := by decide +kernel
theorem dX11_init_315 : decode cX11_init 315 = .ok (.putfield 91, 3) := by decide +kernel
theorem dX11_init_318 : decode cX11_init 318 = .ok (.aload_n 0, 1) := by decide +kernel
theorem dX11_init_319 : decode cX11_init 319 = .ok (.bipush 8, 2) := by decide +kernel
theorem dX11_init_321 : decode cX11_init 321 = .ok (.newarray .int, 2) := by decide +kernel
theorem dX11_init_323 : decode cX11_init 323 = .ok (.putfield 94, 3) := by decide +kernel
theorem dX11_init_326 : decode cX11_init 326 = .ok (.aload_n 0, 1) := by decide +kernel
theorem dX11_init_327 : decode cX11_init 327 = .ok (.bipush 8, 2) := by decide +kernel
theorem dX11_init_329 : decode cX11_init 329 = .ok (.newarray .int, 2) := by decide +kernel
theorem dX11_init_331 : decode cX11_init 331 = .ok (.putfield 97, 3) := by decide +kernel
theorem dX11_init_334 : decode cX11_init 334 = .ok (.aload_n 0, 1) := by decide +kernel
theorem dX11_init_335 : decode cX11_init 335 = .ok (.sipush 199, 3) := by decide +kernel
theorem dX11_init_338 : decode cX11_init 338 = .ok (.newarray .int, 2) := by decide +kernel
theorem dX11_init_340 : decode cX11_init 340 = .ok (.putfield 100, 3) := by decide +kernel
theorem dX11_init_343 : decode cX11_init 343 = .ok (.aload_n 0, 1) := by decide +kernel
theorem dX11_init_344 : decode cX11_init 344 = .ok (.sipush 995, 3) := by decide +kernel
theorem dX11_init_347 : decode cX11_init 347 = .ok (.newarray .int, 2) := by decide +kernel
theorem dX11_init_349 : decode cX11_init 349 = .ok (.putfield 103, 3) := by decide +kernel
theorem dX11_init_352 : decode cX11_init 352 = .ok (.aload_n 0, 1) := by decide +kernel
theorem dX11_init_353 : decode cX11_init 353 = .ok (.sipush 665, 3) := by decide +kernel
theorem dX11_init_356 : decode cX11_init 356 = .ok (.newarray .int, 2) := by decide +kernel
theorem dX11_init_358 : decode cX11_init 358 = .ok (.putfield 106, 3) := by decide +kernel
theorem dX11_init_361 : decode cX11_init 361 = .ok (.aload_n 0, 1) := by decide +kernel
theorem dX11_init_362 : decode cX11_init 362 = .ok (.sipush 26600, 3) := by decide +kernel
theorem dX11_init_365 : decode cX11_init 365 = .ok (.newarray .int, 2) := by decide +kernel
theorem dX11_init_367 : decode cX11_init 367 = .ok (.putfield 109, 3) := by decide +kernel
theorem dX11_init_370 : decode cX11_init 370 = .ok (.aload_n 0, 1) := by decide +kernel
theorem dX11_init_371 : decode cX11_init 371 = .ok (.bipush 8, 2) := by decide +kernel
theorem dX11_init_373 : decode cX11_init 373 = .ok (.newarray .int, 2) := by decide +kernel
theorem dX11_init_375 : decode cX11_init 375 = .ok (.putfield 112, 3) := by decide +kernel
theorem dX11_init_378 : decode cX11_init 378 = .ok (.aload_n 0, 1) := by decide +kernel
theorem dX11_init_379 : decode cX11_init 379 = .ok (.bipush 8, 2) := by decide +kernel
theorem dX11_init_381 : decode cX11_init 381 = .ok (.newarray .int, 2) := by decide +kernel
theorem dX11_init_383 : decode cX11_init 383 = .ok (.putfield 115, 3) := by decide +kernel
theorem dX11_init_386 : decode cX11_init 386 = .ok (.aload_n 0, 1) := by decide +kernel
theorem dX11_init_387 : decode cX11_init 387 = .ok (.iconst 3, 1) := by decide +kernel
theorem dX11_init_388 : decode cX11_init 388 = .ok (.newarray .int, 2) := by decide +kernel
theorem dX11_init_390 : decode cX11_init 390 = .ok (.putfield 118, 3) := by decide +kernel
theorem dX11_init_393 : decode cX11_init 393 = .ok (.return_, 1) := by decide +kernel
theorem dX11_thrown_0 : decode cX11_thrown 0 = .ok (.aload_n 0, 1) := by decide +kernel
theorem dX11_thrown_1 : decode cX11_thrown 1 = .ok (.getfield 121, 3) := by decide +kernel
theorem dX11_thrown_4 : decode cX11_thrown 4 = .ok (.ireturn, 1) := by decide +kernel
theorem dX11_fail_0 : decode cX11_fail 0 = .ok (.aload_n 0, 1) := by decide +kernel
theorem dX11_fail_1 : decode cX11_fail 1 = .ok (.iload_n 1, 1) := by decide +kernel
theorem dX11_fail_2 : decode cX11_fail 2 = .ok (.putfield 121, 3) := by decide +kernel
theorem dX11_fail_5 : decode cX11_fail 5 = .ok (.iconst 0, 1) := by decide +kernel
theorem dX11_fail_6 : decode cX11_fail 6 = .ok (.ireturn, 1) := by decide +kernel
theorem dX11_isIn_0 : decode cX11_isIn 0 = .ok (.lload_n 0, 1) := by decide +kernel
theorem dX11_isIn_1 : decode cX11_isIn 1 = .ok (.lload_n 2, 1) := by decide +kernel
theorem dX11_isIn_2 : decode cX11_isIn 2 = .ok (.lcmp, 1) := by decide +kernel
theorem dX11_isIn_3 : decode cX11_isIn 3 = .ok (.ifCond .lt 14, 3) := by decide +kernel
theorem dX11_isIn_6 : decode cX11_isIn 6 = .ok (.lload_n 0, 1) := by decide +kernel
theorem dX11_isIn_7 : decode cX11_isIn 7 = .ok (.lload 4, 2) := by decide +kernel
theorem dX11_isIn_9 : decode cX11_isIn 9 = .ok (.lcmp, 1) := by decide +kernel
theorem dX11_isIn_10 : decode cX11_isIn 10 = .ok (.ifCond .gt 7, 3) := by decide +kernel
theorem dX11_isIn_13 : decode cX11_isIn 13 = .ok (.iconst 1, 1) := by decide +kernel
theorem dX11_isIn_14 : decode cX11_isIn 14 = .ok (.goto 4, 3) := by decide +kernel
theorem dX11_isIn_17 : decode cX11_isIn 17 = .ok (.iconst 0, 1) := by decide +kernel
theorem dX11_isIn_18 : decode cX11_isIn 18 = .ok (.ireturn, 1) := by decide +kernel
theorem dX11_isOf_0 : decode cX11_isOf 0 = .ok (.iload_n 0, 1) := by decide +kernel
theorem dX11_isOf_1 : decode cX11_isOf 1 = .ok (.iload_n 1, 1) := by decide +kernel
theorem dX11_isOf_2 : decode cX11_isOf 2 = .ok (.ishr, 1) := by decide +kernel
theorem dX11_isOf_3 : decode cX11_isOf 3 = .ok (.iconst 1, 1) := by decide +kernel
theorem dX11_isOf_4 : decode cX11_isOf 4 = .ok (.iand, 1) := by decide +kernel
theorem dX11_isOf_5 : decode cX11_isOf 5 = .ok (.iconst 1, 1) := by decide +kernel
theorem dX11_isOf_6 : decode cX11_isOf 6 = .ok (.if_icmp .ne 7, 3) := by decide +kernel
theorem dX11_isOf_9 : decode cX11_isOf 9 = .ok (.iconst 1, 1) := by decide +kernel
theorem dX11_isOf_10 : decode cX11_isOf 10 = .ok (.goto 4, 3) := by decide +kernel
theorem dX11_isOf_13 : decode cX11_isOf 13 = .ok (.iconst 0, 1) := by decide +kernel
theorem dX11_isOf_14 : decode cX11_isOf 14 = .ok (.ireturn, 1) := by decide +kernel
theorem dX11_within_0 : decode cX11_within 0 = .ok (.iload_n 1, 1) := by decide +kernel
theorem dX11_within_1 : decode cX11_within 1 = .ok (.iload_n 2, 1) := by decide +kernel
theorem dX11_within_2 : decode cX11_within 2 = .ok (.iload_n 0, 1) := by decide +kernel
theorem dX11_within_3 : decode cX11_within 3 = .ok (.invokestatic 124, 3) := by decide +kernel
theorem dX11_within_6 : decode cX11_within 6 = .ok (.invokestatic 130, 3) := by decide +kernel
theorem dX11_within_9 : decode cX11_within 9 = .ok (.ireturn, 1) := by decide +kernel
theorem dX11_feed_0 : decode cX11_feed 0 = .ok (.aload_n 0, 1) := by decide +kernel
theorem dX11_feed_1 : decode cX11_feed 1 = .ok (.iconst 0, 1) := by decide +kernel
theorem dX11_feed_2 : decode cX11_feed 2 = .ok (.putfield 121, 3) := by decide +kernel
theorem dX11_feed_5 : decode cX11_feed 5 = .ok (.aload_n 0, 1) := by decide +kernel
theorem dX11_feed_6 : decode cX11_feed 6 = .ok (.getfield 133, 3) := by decide +kernel
theorem dX11_feed_9 : decode cX11_feed 9 = .ok (.bipush 20, 2) := by decide +kernel
theorem dX11_feed_11 : decode cX11_feed 11 = .ok (.iadd, 1) := by decide +kernel
theorem dX11_feed_12 : decode cX11_feed 12 = .ok (.sipush 700, 3) := by decide +kernel
theorem dX11_feed_15 : decode cX11_feed 15 = .ok (.if_icmp .le 5, 3) := by decide +kernel
theorem dX11_feed_18 : decode cX11_feed 18 = .ok (.iconst (-1), 1) := by decide +kernel
theorem dX11_feed_19 : decode cX11_feed 19 = .ok (.ireturn, 1) := by decide +kernel
theorem dX11_feed_20 : decode cX11_feed 20 = .ok (.iconst 0, 1) := by decide +kernel
theorem dX11_feed_21 : decode cX11_feed 21 = .ok (.istore 6, 2) := by decide +kernel
theorem dX11_feed_23 : decode cX11_feed 23 = .ok (.iload 6, 2) := by decide +kernel
theorem dX11_feed_25 : decode cX11_feed 25 = .ok (.bipush 20, 2) := by decide +kernel
theorem dX11_feed_27 : decode cX11_feed 27 = .ok (.if_icmp .ge 93, 3) := by decide +kernel
theorem dX11_feed_30 : decode cX11_feed 30 = .ok (.iload 6, 2) := by decide +kernel
theorem dX11_feed_32 : decode cX11_feed 32 = .ok (.iconst 4, 1) := by decide +kernel
theorem dX11_feed_33 : decode cX11_feed 33 = .ok (.if_icmp .ge 7, 3) := by decide +kernel
theorem dX11_feed_36 : decode cX11_feed 36 = .ok (.iload_n 1, 1) := by decide +kernel
theorem dX11_feed_37 : decode cX11_feed 37 = .ok (.goto 39, 3) := by decide +kernel
theorem dX11_feed_40 : decode cX11_feed 40 = .ok (.iload 6, 2) := by decide +kernel
theorem dX11_feed_42 : decode cX11_feed 42 = .ok (.bipush 8, 2) := by decide +kernel
theorem dX11_feed_44 : decode cX11_feed 44 = .ok (.if_icmp .ge 7, 3) := by decide +kernel
theorem dX11_feed_47 : decode cX11_feed 47 = .ok (.iload_n 2, 1) := by decide +kernel
theorem dX11_feed_48 : decode cX11_feed 48 = .ok (.goto 28, 3) := by decide +kernel
theorem dX11_feed_51 : decode cX11_feed 51 = .ok (.iload 6, 2) := by decide +kernel
theorem dX11_feed_53 : decode cX11_feed 53 = .ok (.bipush 12, 2) := by decide +kernel
theorem dX11_feed_55 : decode cX11_feed 55 = .ok (.if_icmp .ge 7, 3) := by decide +kernel
theorem dX11_feed_58 : decode cX11_feed 58 = .ok (.iload_n 3, 1) := by decide +kernel
theorem dX11_feed_59 : decode cX11_feed 59 = .ok (.goto 17, 3) := by decide +kernel
theorem dX11_feed_62 : decode cX11_feed 62 = .ok (.iload 6, 2) := by decide +kernel
theorem dX11_feed_64 : decode cX11_feed 64 = .ok (.bipush 16, 2) := by decide +kernel
theorem dX11_feed_66 : decode cX11_feed 66 = .ok (.if_icmp .ge 8, 3) := by decide +kernel
theorem dX11_feed_69 : decode cX11_feed 69 = .ok (.iload 4, 2) := by decide +kernel
theorem dX11_feed_71 : decode cX11_feed 71 = .ok (.goto 5, 3) := by decide +kernel
theorem dX11_feed_74 : decode cX11_feed 74 = .ok (.iload 5, 2) := by decide +kernel
theorem dX11_feed_76 : decode cX11_feed 76 = .ok (.istore 7, 2) := by decide +kernel
theorem dX11_feed_78 : decode cX11_feed 78 = .ok (.aload_n 0, 1) := by decide +kernel
theorem dX11_feed_79 : decode cX11_feed 79 = .ok (.getfield 62, 3) := by decide +kernel
theorem dX11_feed_82 : decode cX11_feed 82 = .ok (.aload_n 0, 1) := by decide +kernel
theorem dX11_feed_83 : decode cX11_feed 83 = .ok (.getfield 133, 3) := by decide +kernel
theorem dX11_feed_86 : decode cX11_feed 86 = .ok (.iload 7, 2) := by decide +kernel
theorem dX11_feed_88 : decode cX11_feed 88 = .ok (.bipush 24, 2) := by decide +kernel
theorem dX11_feed_90 : decode cX11_feed 90 = .ok (.bipush 8, 2) := by decide +kernel
theorem dX11_feed_92 : decode cX11_feed 92 = .ok (.iload 6, 2) := by decide +kernel
theorem dX11_feed_94 : decode cX11_feed 94 = .ok (.iconst 4, 1) := by decide +kernel
theorem dX11_feed_95 : decode cX11_feed 95 = .ok (.irem, 1) := by decide +kernel
theorem dX11_feed_96 : decode cX11_feed 96 = .ok (.imul, 1) := by decide +kernel
theorem dX11_feed_97 : decode cX11_feed 97 = .ok (.isub, 1) := by decide +kernel
theorem dX11_feed_98 : decode cX11_feed 98 = .ok (.ishr, 1) := by decide +kernel
theorem dX11_feed_99 : decode cX11_feed 99 = .ok (.sipush 255, 3) := by decide +kernel
theorem dX11_feed_102 : decode cX11_feed 102 = .ok (.iand, 1) := by decide +kernel
theorem dX11_feed_103 : decode cX11_feed 103 = .ok (.iastore, 1) := by decide +kernel
theorem dX11_feed_104 : decode cX11_feed 104 = .ok (.aload_n 0, 1) := by decide +kernel
theorem dX11_feed_105 : decode cX11_feed 105 = .ok (.dup, 1) := by decide +kernel
theorem dX11_feed_106 : decode cX11_feed 106 = .ok (.getfield 133, 3) := by decide +kernel
theorem dX11_feed_109 : decode cX11_feed 109 = .ok (.iconst 1, 1) := by decide +kernel
theorem dX11_feed_110 : decode cX11_feed 110 = .ok (.iadd, 1) := by decide +kernel
theorem dX11_feed_111 : decode cX11_feed 111 = .ok (.putfield 133, 3) := by decide +kernel
theorem dX11_feed_114 : decode cX11_feed 114 = .ok (.iinc 6 1, 3) := by decide +kernel
theorem dX11_feed_117 : decode cX11_feed 117 = .ok (.goto (-94), 3) := by decide +kernel
theorem dX11_feed_120 : decode cX11_feed 120 = .ok (.aload_n 0, 1) := by decide +kernel
theorem dX11_feed_121 : decode cX11_feed 121 = .ok (.getfield 133, 3) := by decide +kernel
theorem dX11_feed_124 : decode cX11_feed 124 = .ok (.ireturn, 1) := by decide +kernel
theorem dX11_byteAt_0 : decode cX11_byteAt 0 = .ok (.iload_n 1, 1) := by decide +kernel
theorem dX11_byteAt_1 : decode cX11_byteAt 1 = .ok (.aload_n 0, 1) := by decide +kernel
theorem dX11_byteAt_2 : decode cX11_byteAt 2 = .ok (.getfield 136, 3) := by decide +kernel
theorem dX11_byteAt_5 : decode cX11_byteAt 5 = .ok (.if_icmp .ge 12, 3) := by decide +kernel
theorem dX11_byteAt_8 : decode cX11_byteAt 8 = .ok (.aload_n 0, 1) := by decide +kernel
theorem dX11_byteAt_9 : decode cX11_byteAt 9 = .ok (.getfield 62, 3) := by decide +kernel
theorem dX11_byteAt_12 : decode cX11_byteAt 12 = .ok (.iload_n 1, 1) := by decide +kernel
theorem dX11_byteAt_13 : decode cX11_byteAt 13 = .ok (.iaload, 1) := by decide +kernel
theorem dX11_byteAt_14 : decode cX11_byteAt 14 = .ok (.goto 4, 3) := by decide +kernel
theorem dX11_byteAt_17 : decode cX11_byteAt 17 = .ok (.iconst (-1), 1) := by decide +kernel
theorem dX11_byteAt_18 : decode cX11_byteAt 18 = .ok (.ireturn, 1) := by decide +kernel
theorem dX11_isLetter_0 : decode cX11_isLetter 0 = .ok (.iload_n 0, 1) := by decide +kernel
theorem dX11_isLetter_1 : decode cX11_isLetter 1 = .ok (.bipush 97, 2) := by decide +kernel
theorem dX11_isLetter_3 : decode cX11_isLetter 3 = .ok (.if_icmp .lt 13, 3) := by decide +kernel
theorem dX11_isLetter_6 : decode cX11_isLetter 6 = .ok (.iload_n 0, 1) := by decide +kernel
theorem dX11_isLetter_7 : decode cX11_isLetter 7 = .ok (.bipush 122, 2) := by decide +kernel
theorem dX11_isLetter_9 : decode cX11_isLetter 9 = .ok (.if_icmp .gt 7, 3) := by decide +kernel
theorem dX11_isLetter_12 : decode cX11_isLetter 12 = .ok (.iconst 1, 1) := by decide +kernel
theorem dX11_isLetter_13 : decode cX11_isLetter 13 = .ok (.goto 4, 3) := by decide +kernel
theorem dX11_isLetter_16 : decode cX11_isLetter 16 = .ok (.iconst 0, 1) := by decide +kernel
theorem dX11_isLetter_17 : decode cX11_isLetter 17 = .ok (.ireturn, 1) := by decide +kernel
theorem dX11_isDigit_0 : decode cX11_isDigit 0 = .ok (.iload_n 0, 1) := by decide +kernel
theorem dX11_isDigit_1 : decode cX11_isDigit 1 = .ok (.bipush 48, 2) := by decide +kernel
theorem dX11_isDigit_3 : decode cX11_isDigit 3 = .ok (.if_icmp .lt 13, 3) := by decide +kernel
theorem dX11_isDigit_6 : decode cX11_isDigit 6 = .ok (.iload_n 0, 1) := by decide +kernel
theorem dX11_isDigit_7 : decode cX11_isDigit 7 = .ok (.bipush 57, 2) := by decide +kernel
theorem dX11_isDigit_9 : decode cX11_isDigit 9 = .ok (.if_icmp .gt 7, 3) := by decide +kernel
theorem dX11_isDigit_12 : decode cX11_isDigit 12 = .ok (.iconst 1, 1) := by decide +kernel
theorem dX11_isDigit_13 : decode cX11_isDigit 13 = .ok (.goto 4, 3) := by decide +kernel
theorem dX11_isDigit_16 : decode cX11_isDigit 16 = .ok (.iconst 0, 1) := by decide +kernel
theorem dX11_isDigit_17 : decode cX11_isDigit 17 = .ok (.ireturn, 1) := by decide +kernel
theorem dX11_isMark_0 : decode cX11_isMark 0 = .ok (.iload_n 0, 1) := by decide +kernel
theorem dX11_isMark_1 : decode cX11_isMark 1 = .ok (.bipush 59, 2) := by decide +kernel
theorem dX11_isMark_3 : decode cX11_isMark 3 = .ok (.if_icmp .eq 51, 3) := by decide +kernel
theorem dX11_isMark_6 : decode cX11_isMark 6 = .ok (.iload_n 0, 1) := by decide +kernel
theorem dX11_isMark_7 : decode cX11_isMark 7 = .ok (.bipush 40, 2) := by decide +kernel
theorem dX11_isMark_9 : decode cX11_isMark 9 = .ok (.if_icmp .eq 45, 3) := by decide +kernel
theorem dX11_isMark_12 : decode cX11_isMark 12 = .ok (.iload_n 0, 1) := by decide +kernel
theorem dX11_isMark_13 : decode cX11_isMark 13 = .ok (.bipush 41, 2) := by decide +kernel
theorem dX11_isMark_15 : decode cX11_isMark 15 = .ok (.if_icmp .eq 39, 3) := by decide +kernel
theorem dX11_isMark_18 : decode cX11_isMark 18 = .ok (.iload_n 0, 1) := by decide +kernel
theorem dX11_isMark_19 : decode cX11_isMark 19 = .ok (.bipush 43, 2) := by decide +kernel
theorem dX11_isMark_21 : decode cX11_isMark 21 = .ok (.if_icmp .eq 33, 3) := by decide +kernel
theorem dX11_isMark_24 : decode cX11_isMark 24 = .ok (.iload_n 0, 1) := by decide +kernel
theorem dX11_isMark_25 : decode cX11_isMark 25 = .ok (.bipush 45, 2) := by decide +kernel
theorem dX11_isMark_27 : decode cX11_isMark 27 = .ok (.if_icmp .eq 27, 3) := by decide +kernel
theorem dX11_isMark_30 : decode cX11_isMark 30 = .ok (.iload_n 0, 1) := by decide +kernel
theorem dX11_isMark_31 : decode cX11_isMark 31 = .ok (.bipush 42, 2) := by decide +kernel
theorem dX11_isMark_33 : decode cX11_isMark 33 = .ok (.if_icmp .eq 21, 3) := by decide +kernel
theorem dX11_isMark_36 : decode cX11_isMark 36 = .ok (.iload_n 0, 1) := by decide +kernel
theorem dX11_isMark_37 : decode cX11_isMark 37 = .ok (.bipush 47, 2) := by decide +kernel
theorem dX11_isMark_39 : decode cX11_isMark 39 = .ok (.if_icmp .eq 15, 3) := by decide +kernel
theorem dX11_isMark_42 : decode cX11_isMark 42 = .ok (.iload_n 0, 1) := by decide +kernel
theorem dX11_isMark_43 : decode cX11_isMark 43 = .ok (.bipush 60, 2) := by decide +kernel
theorem dX11_isMark_45 : decode cX11_isMark 45 = .ok (.if_icmp .eq 9, 3) := by decide +kernel
theorem dX11_isMark_48 : decode cX11_isMark 48 = .ok (.iload_n 0, 1) := by decide +kernel
theorem dX11_isMark_49 : decode cX11_isMark 49 = .ok (.bipush 61, 2) := by decide +kernel
theorem dX11_isMark_51 : decode cX11_isMark 51 = .ok (.if_icmp .ne 7, 3) := by decide +kernel
theorem dX11_isMark_54 : decode cX11_isMark 54 = .ok (.iconst 1, 1) := by decide +kernel
theorem dX11_isMark_55 : decode cX11_isMark 55 = .ok (.goto 4, 3) := by decide +kernel
theorem dX11_isMark_58 : decode cX11_isMark 58 = .ok (.iconst 0, 1) := by decide +kernel
theorem dX11_isMark_59 : decode cX11_isMark 59 = .ok (.ireturn, 1) := by decide +kernel
theorem dX11_stepOn_0 : decode cX11_stepOn 0 = .ok (.aload_n 0, 1) := by decide +kernel
theorem dX11_stepOn_1 : decode cX11_stepOn 1 = .ok (.aload_n 0, 1) := by decide +kernel
theorem dX11_stepOn_2 : decode cX11_stepOn 2 = .ok (.getfield 138, 3) := by decide +kernel
theorem dX11_stepOn_5 : decode cX11_stepOn 5 = .ok (.invokevirtual 141, 3) := by decide +kernel
theorem dX11_stepOn_8 : decode cX11_stepOn 8 = .ok (.bipush 32, 2) := by decide +kernel
theorem dX11_stepOn_10 : decode cX11_stepOn 10 = .ok (.if_icmp .eq 16, 3) := by decide +kernel
theorem dX11_stepOn_13 : decode cX11_stepOn 13 = .ok (.aload_n 0, 1) := by decide +kernel
theorem dX11_stepOn_14 : decode cX11_stepOn 14 = .ok (.aload_n 0, 1) := by decide +kernel
theorem dX11_stepOn_15 : decode cX11_stepOn 15 = .ok (.getfield 138, 3) := by decide +kernel
theorem dX11_stepOn_18 : decode cX11_stepOn 18 = .ok (.invokevirtual 141, 3) := by decide +kernel
theorem dX11_stepOn_21 : decode cX11_stepOn 21 = .ok (.bipush 10, 2) := by decide +kernel
theorem dX11_stepOn_23 : decode cX11_stepOn 23 = .ok (.if_icmp .ne 16, 3) := by decide +kernel
theorem dX11_stepOn_26 : decode cX11_stepOn 26 = .ok (.aload_n 0, 1) := by decide +kernel
theorem dX11_stepOn_27 : decode cX11_stepOn 27 = .ok (.dup, 1) := by decide +kernel
theorem dX11_stepOn_28 : decode cX11_stepOn 28 = .ok (.getfield 138, 3) := by decide +kernel
theorem dX11_stepOn_31 : decode cX11_stepOn 31 = .ok (.iconst 1, 1) := by decide +kernel
theorem dX11_stepOn_32 : decode cX11_stepOn 32 = .ok (.iadd, 1) := by decide +kernel
theorem dX11_stepOn_33 : decode cX11_stepOn 33 = .ok (.putfield 138, 3) := by decide +kernel
theorem dX11_stepOn_36 : decode cX11_stepOn 36 = .ok (.goto (-36), 3) := by decide +kernel
theorem dX11_stepOn_39 : decode cX11_stepOn 39 = .ok (.aload_n 0, 1) := by decide +kernel
theorem dX11_stepOn_40 : decode cX11_stepOn 40 = .ok (.aload_n 0, 1) := by decide +kernel
theorem dX11_stepOn_41 : decode cX11_stepOn 41 = .ok (.getfield 138, 3) := by decide +kernel
theorem dX11_stepOn_44 : decode cX11_stepOn 44 = .ok (.putfield 145, 3) := by decide +kernel
theorem dX11_stepOn_47 : decode cX11_stepOn 47 = .ok (.aload_n 0, 1) := by decide +kernel
theorem dX11_stepOn_48 : decode cX11_stepOn 48 = .ok (.aload_n 0, 1) := by decide +kernel
theorem dX11_stepOn_49 : decode cX11_stepOn 49 = .ok (.getfield 138, 3) := by decide +kernel
theorem dX11_stepOn_52 : decode cX11_stepOn 52 = .ok (.invokevirtual 141, 3) := by decide +kernel
theorem dX11_stepOn_55 : decode cX11_stepOn 55 = .ok (.istore_n 1, 1) := by decide +kernel
theorem dX11_stepOn_56 : decode cX11_stepOn 56 = .ok (.iload_n 1, 1) := by decide +kernel
theorem dX11_stepOn_57 : decode cX11_stepOn 57 = .ok (.iconst (-1), 1) := by decide +kernel
theorem dX11_stepOn_58 : decode cX11_stepOn 58 = .ok (.if_icmp .ne 11, 3) := by decide +kernel
theorem dX11_stepOn_61 : decode cX11_stepOn 61 = .ok (.aload_n 0, 1) := by decide +kernel
theorem dX11_stepOn_62 : decode cX11_stepOn 62 = .ok (.iconst 0, 1) := by decide +kernel
theorem dX11_stepOn_63 : decode cX11_stepOn 63 = .ok (.putfield 148, 3) := by decide +kernel
theorem dX11_stepOn_66 : decode cX11_stepOn 66 = .ok (.goto 146, 3) := by decide +kernel
theorem dX11_stepOn_69 : decode cX11_stepOn 69 = .ok (.iload_n 1, 1) := by decide +kernel
theorem dX11_stepOn_70 : decode cX11_stepOn 70 = .ok (.invokestatic 151, 3) := by decide +kernel
theorem dX11_stepOn_73 : decode cX11_stepOn 73 = .ok (.ifCond .eq 38, 3) := by decide +kernel
theorem dX11_stepOn_76 : decode cX11_stepOn 76 = .ok (.aload_n 0, 1) := by decide +kernel
theorem dX11_stepOn_77 : decode cX11_stepOn 77 = .ok (.aload_n 0, 1) := by decide +kernel
theorem dX11_stepOn_78 : decode cX11_stepOn 78 = .ok (.getfield 138, 3) := by decide +kernel
theorem dX11_stepOn_81 : decode cX11_stepOn 81 = .ok (.invokevirtual 141, 3) := by decide +kernel
theorem dX11_stepOn_84 : decode cX11_stepOn 84 = .ok (.invokestatic 151, 3) := by decide +kernel
theorem dX11_stepOn_87 : decode cX11_stepOn 87 = .ok (.ifCond .eq 16, 3) := by decide +kernel
theorem dX11_stepOn_90 : decode cX11_stepOn 90 = .ok (.aload_n 0, 1) := by decide +kernel
theorem dX11_stepOn_91 : decode cX11_stepOn 91 = .ok (.dup, 1) := by decide +kernel
theorem dX11_stepOn_92 : decode cX11_stepOn 92 = .ok (.getfield 138, 3) := by decide +kernel
theorem dX11_stepOn_95 : decode cX11_stepOn 95 = .ok (.iconst 1, 1) := by decide +kernel
theorem dX11_stepOn_96 : decode cX11_stepOn 96 = .ok (.iadd, 1) := by decide +kernel
theorem dX11_stepOn_97 : decode cX11_stepOn 97 = .ok (.putfield 138, 3) := by decide +kernel
theorem dX11_stepOn_100 : decode cX11_stepOn 100 = .ok (.goto (-24), 3) := by decide +kernel
theorem dX11_stepOn_103 : decode cX11_stepOn 103 = .ok (.aload_n 0, 1) := by decide +kernel
theorem dX11_stepOn_104 : decode cX11_stepOn 104 = .ok (.iconst 1, 1) := by decide +kernel
theorem dX11_stepOn_105 : decode cX11_stepOn 105 = .ok (.putfield 148, 3) := by decide +kernel
theorem dX11_stepOn_108 : decode cX11_stepOn 108 = .ok (.goto 104, 3) := by decide +kernel
theorem dX11_stepOn_111 : decode cX11_stepOn 111 = .ok (.iload_n 1, 1) := by decide +kernel
theorem dX11_stepOn_112 : decode cX11_stepOn 112 = .ok (.invokestatic 155, 3) := by decide +kernel
theorem dX11_stepOn_115 : decode cX11_stepOn 115 = .ok (.ifCond .eq 71, 3) := by decide +kernel
theorem dX11_stepOn_118 : decode cX11_stepOn 118 = .ok (.aload_n 0, 1) := by decide +kernel
theorem dX11_stepOn_119 : decode cX11_stepOn 119 = .ok (.iconst 0, 1) := by decide +kernel
theorem dX11_stepOn_120 : decode cX11_stepOn 120 = .ok (.putfield 158, 3) := by decide +kernel
theorem dX11_stepOn_123 : decode cX11_stepOn 123 = .ok (.aload_n 0, 1) := by decide +kernel
theorem dX11_stepOn_124 : decode cX11_stepOn 124 = .ok (.aload_n 0, 1) := by decide +kernel
theorem dX11_stepOn_125 : decode cX11_stepOn 125 = .ok (.getfield 138, 3) := by decide +kernel
theorem dX11_stepOn_128 : decode cX11_stepOn 128 = .ok (.invokevirtual 141, 3) := by decide +kernel
theorem dX11_stepOn_131 : decode cX11_stepOn 131 = .ok (.invokestatic 155, 3) := by decide +kernel
theorem dX11_stepOn_134 : decode cX11_stepOn 134 = .ok (.ifCond .eq 44, 3) := by decide +kernel
theorem dX11_stepOn_137 : decode cX11_stepOn 137 = .ok (.aload_n 0, 1) := by decide +kernel
theorem dX11_stepOn_138 : decode cX11_stepOn 138 = .ok (.ldc 161, 2) := by decide +kernel
theorem dX11_stepOn_140 : decode cX11_stepOn 140 = .ok (.bipush 10, 2) := by decide +kernel
theorem dX11_stepOn_142 : decode cX11_stepOn 142 = .ok (.aload_n 0, 1) := by decide +kernel
theorem dX11_stepOn_143 : decode cX11_stepOn 143 = .ok (.getfield 158, 3) := by decide +kernel
theorem dX11_stepOn_146 : decode cX11_stepOn 146 = .ok (.imul, 1) := by decide +kernel
theorem dX11_stepOn_147 : decode cX11_stepOn 147 = .ok (.aload_n 0, 1) := by decide +kernel
theorem dX11_stepOn_148 : decode cX11_stepOn 148 = .ok (.aload_n 0, 1) := by decide +kernel
theorem dX11_stepOn_149 : decode cX11_stepOn 149 = .ok (.getfield 138, 3) := by decide +kernel
theorem dX11_stepOn_152 : decode cX11_stepOn 152 = .ok (.invokevirtual 141, 3) := by decide +kernel
theorem dX11_stepOn_155 : decode cX11_stepOn 155 = .ok (.iadd, 1) := by decide +kernel
theorem dX11_stepOn_156 : decode cX11_stepOn 156 = .ok (.bipush 48, 2) := by decide +kernel
theorem dX11_stepOn_158 : decode cX11_stepOn 158 = .ok (.isub, 1) := by decide +kernel
theorem dX11_stepOn_159 : decode cX11_stepOn 159 = .ok (.invokestatic 124, 3) := by decide +kernel
theorem dX11_stepOn_162 : decode cX11_stepOn 162 = .ok (.putfield 158, 3) := by decide +kernel
theorem dX11_stepOn_165 : decode cX11_stepOn 165 = .ok (.aload_n 0, 1) := by decide +kernel
theorem dX11_stepOn_166 : decode cX11_stepOn 166 = .ok (.dup, 1) := by decide +kernel
theorem dX11_stepOn_167 : decode cX11_stepOn 167 = .ok (.getfield 138, 3) := by decide +kernel
theorem dX11_stepOn_170 : decode cX11_stepOn 170 = .ok (.iconst 1, 1) := by decide +kernel
theorem dX11_stepOn_171 : decode cX11_stepOn 171 = .ok (.iadd, 1) := by decide +kernel
theorem dX11_stepOn_172 : decode cX11_stepOn 172 = .ok (.putfield 138, 3) := by decide +kernel
theorem dX11_stepOn_175 : decode cX11_stepOn 175 = .ok (.goto (-52), 3) := by decide +kernel
theorem dX11_stepOn_178 : decode cX11_stepOn 178 = .ok (.aload_n 0, 1) := by decide +kernel
theorem dX11_stepOn_179 : decode cX11_stepOn 179 = .ok (.iconst 2, 1) := by decide +kernel
theorem dX11_stepOn_180 : decode cX11_stepOn 180 = .ok (.putfield 148, 3) := by decide +kernel
theorem dX11_stepOn_183 : decode cX11_stepOn 183 = .ok (.goto 29, 3) := by decide +kernel
theorem dX11_stepOn_186 : decode cX11_stepOn 186 = .ok (.aload_n 0, 1) := by decide +kernel
theorem dX11_stepOn_187 : decode cX11_stepOn 187 = .ok (.dup, 1) := by decide +kernel
theorem dX11_stepOn_188 : decode cX11_stepOn 188 = .ok (.getfield 138, 3) := by decide +kernel
theorem dX11_stepOn_191 : decode cX11_stepOn 191 = .ok (.iconst 1, 1) := by decide +kernel
theorem dX11_stepOn_192 : decode cX11_stepOn 192 = .ok (.iadd, 1) := by decide +kernel
theorem dX11_stepOn_193 : decode cX11_stepOn 193 = .ok (.putfield 138, 3) := by decide +kernel
theorem dX11_stepOn_196 : decode cX11_stepOn 196 = .ok (.aload_n 0, 1) := by decide +kernel
theorem dX11_stepOn_197 : decode cX11_stepOn 197 = .ok (.iload_n 1, 1) := by decide +kernel
theorem dX11_stepOn_198 : decode cX11_stepOn 198 = .ok (.invokestatic 162, 3) := by decide +kernel
theorem dX11_stepOn_201 : decode cX11_stepOn 201 = .ok (.ifCond .eq 7, 3) := by decide +kernel
theorem dX11_stepOn_204 : decode cX11_stepOn 204 = .ok (.iconst 3, 1) := by decide +kernel
theorem dX11_stepOn_205 : decode cX11_stepOn 205 = .ok (.goto 4, 3) := by decide +kernel
theorem dX11_stepOn_208 : decode cX11_stepOn 208 = .ok (.iconst 4, 1) := by decide +kernel
theorem dX11_stepOn_209 : decode cX11_stepOn 209 = .ok (.putfield 148, 3) := by decide +kernel
theorem dX11_stepOn_212 : decode cX11_stepOn 212 = .ok (.aload_n 0, 1) := by decide +kernel
theorem dX11_stepOn_213 : decode cX11_stepOn 213 = .ok (.aload_n 0, 1) := by decide +kernel
theorem dX11_stepOn_214 : decode cX11_stepOn 214 = .ok (.getfield 138, 3) := by decide +kernel
theorem dX11_stepOn_217 : decode cX11_stepOn 217 = .ok (.putfield 165, 3) := by decide +kernel
theorem dX11_stepOn_220 : decode cX11_stepOn 220 = .ok (.return_, 1) := by decide +kernel
theorem dX11_wrong_0 : decode cX11_wrong 0 = .ok (.aload_n 0, 1) := by decide +kernel
theorem dX11_wrong_1 : decode cX11_wrong 1 = .ok (.getfield 168, 3) := by decide +kernel
theorem dX11_wrong_4 : decode cX11_wrong 4 = .ok (.ifCond .eq 4, 3) := by decide +kernel
theorem dX11_wrong_7 : decode cX11_wrong 7 = .ok (.return_, 1) := by decide +kernel
theorem dX11_wrong_8 : decode cX11_wrong 8 = .ok (.aload_n 0, 1) := by decide +kernel
theorem dX11_wrong_9 : decode cX11_wrong 9 = .ok (.iload_n 1, 1) := by decide +kernel
theorem dX11_wrong_10 : decode cX11_wrong 10 = .ok (.putfield 168, 3) := by decide +kernel
theorem dX11_wrong_13 : decode cX11_wrong 13 = .ok (.aload_n 0, 1) := by decide +kernel
theorem dX11_wrong_14 : decode cX11_wrong 14 = .ok (.aload_n 0, 1) := by decide +kernel
theorem dX11_wrong_15 : decode cX11_wrong 15 = .ok (.getfield 145, 3) := by decide +kernel
theorem dX11_wrong_18 : decode cX11_wrong 18 = .ok (.putfield 171, 3) := by decide +kernel
theorem dX11_wrong_21 : decode cX11_wrong 21 = .ok (.return_, 1) := by decide +kernel
theorem dX11_is_0 : decode cX11_is 0 = .ok (.aload_n 0, 1) := by decide +kernel
theorem dX11_is_1 : decode cX11_is 1 = .ok (.getfield 168, 3) := by decide +kernel
theorem dX11_is_4 : decode cX11_is 4 = .ok (.ifCond .ne 31, 3) := by decide +kernel
theorem dX11_is_7 : decode cX11_is 7 = .ok (.aload_n 0, 1) := by decide +kernel
theorem dX11_is_8 : decode cX11_is 8 = .ok (.getfield 148, 3) := by decide +kernel
theorem dX11_is_11 : decode cX11_is 11 = .ok (.iconst 1, 1) := by decide +kernel
theorem dX11_is_12 : decode cX11_is 12 = .ok (.if_icmp .ne 23, 3) := by decide +kernel
theorem dX11_is_15 : decode cX11_is 15 = .ok (.aload_n 1, 1) := by decide +kernel
theorem dX11_is_16 : decode cX11_is 16 = .ok (.invokevirtual 174, 3) := by decide +kernel
theorem dX11_is_19 : decode cX11_is 19 = .ok (.aload_n 0, 1) := by decide +kernel
theorem dX11_is_20 : decode cX11_is 20 = .ok (.getfield 165, 3) := by decide +kernel
theorem dX11_is_23 : decode cX11_is 23 = .ok (.aload_n 0, 1) := by decide +kernel
theorem dX11_is_24 : decode cX11_is 24 = .ok (.getfield 145, 3) := by decide +kernel
theorem dX11_is_27 : decode cX11_is 27 = .ok (.isub, 1) := by decide +kernel
theorem dX11_is_28 : decode cX11_is 28 = .ok (.if_icmp .ne 7, 3) := by decide +kernel
theorem dX11_is_31 : decode cX11_is 31 = .ok (.iconst 1, 1) := by decide +kernel
theorem dX11_is_32 : decode cX11_is 32 = .ok (.goto 4, 3) := by decide +kernel
theorem dX11_is_35 : decode cX11_is 35 = .ok (.iconst 0, 1) := by decide +kernel
theorem dX11_is_36 : decode cX11_is 36 = .ok (.istore_n 2, 1) := by decide +kernel
theorem dX11_is_37 : decode cX11_is 37 = .ok (.iconst 0, 1) := by decide +kernel
theorem dX11_is_38 : decode cX11_is 38 = .ok (.istore_n 3, 1) := by decide +kernel
theorem dX11_is_39 : decode cX11_is 39 = .ok (.iload_n 2, 1) := by decide +kernel
theorem dX11_is_40 : decode cX11_is 40 = .ok (.ifCond .eq 42, 3) := by decide +kernel
theorem dX11_is_43 : decode cX11_is 43 = .ok (.iload_n 3, 1) := by decide +kernel
theorem dX11_is_44 : decode cX11_is 44 = .ok (.aload_n 1, 1) := by decide +kernel
theorem dX11_is_45 : decode cX11_is 45 = .ok (.invokevirtual 174, 3) := by decide +kernel
theorem dX11_is_48 : decode cX11_is 48 = .ok (.if_icmp .ge 34, 3) := by decide +kernel
theorem dX11_is_51 : decode cX11_is 51 = .ok (.aload_n 1, 1) := by decide +kernel
theorem dX11_is_52 : decode cX11_is 52 = .ok (.iload_n 3, 1) := by decide +kernel
theorem dX11_is_53 : decode cX11_is 53 = .ok (.invokevirtual 178, 3) := by decide +kernel
theorem dX11_is_56 : decode cX11_is 56 = .ok (.aload_n 0, 1) := by decide +kernel
theorem dX11_is_57 : decode cX11_is 57 = .ok (.getfield 62, 3) := by decide +kernel
theorem dX11_is_60 : decode cX11_is 60 = .ok (.aload_n 0, 1) := by decide +kernel
theorem dX11_is_61 : decode cX11_is 61 = .ok (.getfield 145, 3) := by decide +kernel
theorem dX11_is_64 : decode cX11_is 64 = .ok (.iload_n 3, 1) := by decide +kernel
theorem dX11_is_65 : decode cX11_is 65 = .ok (.iadd, 1) := by decide +kernel
theorem dX11_is_66 : decode cX11_is 66 = .ok (.iaload, 1) := by decide +kernel
theorem dX11_is_67 : decode cX11_is 67 = .ok (.if_icmp .ne 7, 3) := by decide +kernel
theorem dX11_is_70 : decode cX11_is 70 = .ok (.iconst 1, 1) := by decide +kernel
theorem dX11_is_71 : decode cX11_is 71 = .ok (.goto 4, 3) := by decide +kernel
theorem dX11_is_74 : decode cX11_is 74 = .ok (.iconst 0, 1) := by decide +kernel
theorem dX11_is_75 : decode cX11_is 75 = .ok (.istore_n 2, 1) := by decide +kernel
theorem dX11_is_76 : decode cX11_is 76 = .ok (.iinc 3 1, 3) := by decide +kernel
theorem dX11_is_79 : decode cX11_is 79 = .ok (.goto (-40), 3) := by decide +kernel
theorem dX11_is_82 : decode cX11_is 82 = .ok (.iload_n 2, 1) := by decide +kernel
theorem dX11_is_83 : decode cX11_is 83 = .ok (.ireturn, 1) := by decide +kernel
theorem dX11_which_0 : decode cX11_which 0 = .ok (.iconst 0, 1) := by decide +kernel
theorem dX11_which_1 : decode cX11_which 1 = .ok (.istore_n 2, 1) := by decide +kernel
theorem dX11_which_2 : decode cX11_which 2 = .ok (.iload_n 2, 1) := by decide +kernel
theorem dX11_which_3 : decode cX11_which 3 = .ok (.aload_n 1, 1) := by decide +kernel
theorem dX11_which_4 : decode cX11_which 4 = .ok (.arraylength, 1) := by decide +kernel
theorem dX11_which_5 : decode cX11_which 5 = .ok (.if_icmp .ge 21, 3) := by decide +kernel
theorem dX11_which_8 : decode cX11_which 8 = .ok (.aload_n 0, 1) := by decide +kernel
theorem dX11_which_9 : decode cX11_which 9 = .ok (.aload_n 1, 1) := by decide +kernel
theorem dX11_which_10 : decode cX11_which 10 = .ok (.iload_n 2, 1) := by decide +kernel
theorem dX11_which_11 : decode cX11_which 11 = .ok (.aaload, 1) := by decide +kernel
theorem dX11_which_12 : decode cX11_which 12 = .ok (.invokevirtual 182, 3) := by decide +kernel
theorem dX11_which_15 : decode cX11_which 15 = .ok (.ifCond .eq 5, 3) := by decide +kernel
theorem dX11_which_18 : decode cX11_which 18 = .ok (.iload_n 2, 1) := by decide +kernel
theorem dX11_which_19 : decode cX11_which 19 = .ok (.ireturn, 1) := by decide +kernel
theorem dX11_which_20 : decode cX11_which 20 = .ok (.iinc 2 1, 3) := by decide +kernel
theorem dX11_which_23 : decode cX11_which 23 = .ok (.goto (-21), 3) := by decide +kernel
theorem dX11_which_26 : decode cX11_which 26 = .ok (.iconst (-1), 1) := by decide +kernel
theorem dX11_which_27 : decode cX11_which 27 = .ok (.ireturn, 1) := by decide +kernel
theorem dX11_isMarked_0 : decode cX11_isMarked 0 = .ok (.aload_n 0, 1) := by decide +kernel
theorem dX11_isMarked_1 : decode cX11_isMarked 1 = .ok (.getfield 168, 3) := by decide +kernel
theorem dX11_isMarked_4 : decode cX11_isMarked 4 = .ok (.ifCond .ne 28, 3) := by decide +kernel
theorem dX11_isMarked_7 : decode cX11_isMarked 7 = .ok (.aload_n 0, 1) := by decide +kernel
theorem dX11_isMarked_8 : decode cX11_isMarked 8 = .ok (.getfield 148, 3) := by decide +kernel
theorem dX11_isMarked_11 : decode cX11_isMarked 11 = .ok (.iconst 3, 1) := by decide +kernel
theorem dX11_isMarked_12 : decode cX11_isMarked 12 = .ok (.if_icmp .ne 20, 3) := by decide +kernel
theorem dX11_isMarked_15 : decode cX11_isMarked 15 = .ok (.aload_n 0, 1) := by decide +kernel
theorem dX11_isMarked_16 : decode cX11_isMarked 16 = .ok (.getfield 62, 3) := by decide +kernel
theorem dX11_isMarked_19 : decode cX11_isMarked 19 = .ok (.aload_n 0, 1) := by decide +kernel
theorem dX11_isMarked_20 : decode cX11_isMarked 20 = .ok (.getfield 145, 3) := by decide +kernel
theorem dX11_isMarked_23 : decode cX11_isMarked 23 = .ok (.iaload, 1) := by decide +kernel
theorem dX11_isMarked_24 : decode cX11_isMarked 24 = .ok (.iload_n 1, 1) := by decide +kernel
theorem dX11_isMarked_25 : decode cX11_isMarked 25 = .ok (.if_icmp .ne 7, 3) := by decide +kernel
theorem dX11_isMarked_28 : decode cX11_isMarked 28 = .ok (.iconst 1, 1) := by decide +kernel
theorem dX11_isMarked_29 : decode cX11_isMarked 29 = .ok (.goto 4, 3) := by decide +kernel
theorem dX11_isMarked_32 : decode cX11_isMarked 32 = .ok (.iconst 0, 1) := by decide +kernel
theorem dX11_isMarked_33 : decode cX11_isMarked 33 = .ok (.ireturn, 1) := by decide +kernel
theorem dX11_mark_0 : decode cX11_mark 0 = .ok (.aload_n 0, 1) := by decide +kernel
theorem dX11_mark_1 : decode cX11_mark 1 = .ok (.getfield 168, 3) := by decide +kernel
theorem dX11_mark_4 : decode cX11_mark 4 = .ok (.ifCond .ne 16, 3) := by decide +kernel
theorem dX11_mark_7 : decode cX11_mark 7 = .ok (.aload_n 0, 1) := by decide +kernel
theorem dX11_mark_8 : decode cX11_mark 8 = .ok (.iload_n 1, 1) := by decide +kernel
theorem dX11_mark_9 : decode cX11_mark 9 = .ok (.invokevirtual 186, 3) := by decide +kernel
theorem dX11_mark_12 : decode cX11_mark 12 = .ok (.ifCond .ne 8, 3) := by decide +kernel
theorem dX11_mark_15 : decode cX11_mark 15 = .ok (.aload_n 0, 1) := by decide +kernel
theorem dX11_mark_16 : decode cX11_mark 16 = .ok (.iconst 1, 1) := by decide +kernel
theorem dX11_mark_17 : decode cX11_mark 17 = .ok (.invokevirtual 189, 3) := by decide +kernel
theorem dX11_mark_20 : decode cX11_mark 20 = .ok (.aload_n 0, 1) := by decide +kernel
theorem dX11_mark_21 : decode cX11_mark 21 = .ok (.getfield 168, 3) := by decide +kernel
theorem dX11_mark_24 : decode cX11_mark 24 = .ok (.ifCond .ne 7, 3) := by decide +kernel
theorem dX11_mark_27 : decode cX11_mark 27 = .ok (.aload_n 0, 1) := by decide +kernel
theorem dX11_mark_28 : decode cX11_mark 28 = .ok (.invokevirtual 193, 3) := by decide +kernel
theorem dX11_mark_31 : decode cX11_mark 31 = .ok (.return_, 1) := by decide +kernel
theorem dX11_readNumber_0 : decode cX11_readNumber 0 = .ok (.aload_n 0, 1) := by decide +kernel
theorem dX11_readNumber_1 : decode cX11_readNumber 1 = .ok (.getfield 168, 3) := by decide +kernel
theorem dX11_readNumber_4 : decode cX11_readNumber 4 = .ok (.ifCond .eq 5, 3) := by decide +kernel
theorem dX11_readNumber_7 : decode cX11_readNumber 7 = .ok (.iconst 0, 1) := by decide +kernel
theorem dX11_readNumber_8 : decode cX11_readNumber 8 = .ok (.ireturn, 1) := by decide +kernel
theorem dX11_readNumber_9 : decode cX11_readNumber 9 = .ok (.aload_n 0, 1) := by decide +kernel
theorem dX11_readNumber_10 : decode cX11_readNumber 10 = .ok (.getfield 148, 3) := by decide +kernel
theorem dX11_readNumber_13 : decode cX11_readNumber 13 = .ok (.iconst 2, 1) := by decide +kernel
theorem dX11_readNumber_14 : decode cX11_readNumber 14 = .ok (.if_icmp .eq 11, 3) := by decide +kernel
theorem dX11_readNumber_17 : decode cX11_readNumber 17 = .ok (.aload_n 0, 1) := by decide +kernel
theorem dX11_readNumber_18 : decode cX11_readNumber 18 = .ok (.iconst 1, 1) := by decide +kernel
theorem dX11_readNumber_19 : decode cX11_readNumber 19 = .ok (.invokevirtual 189, 3) := by decide +kernel
theorem dX11_readNumber_22 : decode cX11_readNumber 22 = .ok (.goto 37, 3) := by decide +kernel
theorem dX11_readNumber_25 : decode cX11_readNumber 25 = .ok (.aload_n 0, 1) := by decide +kernel
theorem dX11_readNumber_26 : decode cX11_readNumber 26 = .ok (.getfield 165, 3) := by decide +kernel
theorem dX11_readNumber_29 : decode cX11_readNumber 29 = .ok (.aload_n 0, 1) := by decide +kernel
theorem dX11_readNumber_30 : decode cX11_readNumber 30 = .ok (.getfield 145, 3) := by decide +kernel
theorem dX11_readNumber_33 : decode cX11_readNumber 33 = .ok (.isub, 1) := by decide +kernel
theorem dX11_readNumber_34 : decode cX11_readNumber 34 = .ok (.iconst 4, 1) := by decide +kernel
theorem dX11_readNumber_35 : decode cX11_readNumber 35 = .ok (.if_icmp .gt 19, 3) := by decide +kernel
theorem dX11_readNumber_38 : decode cX11_readNumber 38 = .ok (.aload_n 0, 1) := by decide +kernel
theorem dX11_readNumber_39 : decode cX11_readNumber 39 = .ok (.getfield 158, 3) := by decide +kernel
theorem dX11_readNumber_42 : decode cX11_readNumber 42 = .ok (.iload_n 1, 1) := by decide +kernel
theorem dX11_readNumber_43 : decode cX11_readNumber 43 = .ok (.if_icmp .lt 11, 3) := by decide +kernel
theorem dX11_readNumber_46 : decode cX11_readNumber 46 = .ok (.aload_n 0, 1) := by decide +kernel
theorem dX11_readNumber_47 : decode cX11_readNumber 47 = .ok (.getfield 158, 3) := by decide +kernel
theorem dX11_readNumber_50 : decode cX11_readNumber 50 = .ok (.iload_n 2, 1) := by decide +kernel
theorem dX11_readNumber_51 : decode cX11_readNumber 51 = .ok (.if_icmp .le 8, 3) := by decide +kernel
theorem dX11_readNumber_54 : decode cX11_readNumber 54 = .ok (.aload_n 0, 1) := by decide +kernel
theorem dX11_readNumber_55 : decode cX11_readNumber 55 = .ok (.iconst 2, 1) := by decide +kernel
theorem dX11_readNumber_56 : decode cX11_readNumber 56 = .ok (.invokevirtual 189, 3) := by decide +kernel
theorem dX11_readNumber_59 : decode cX11_readNumber 59 = .ok (.aload_n 0, 1) := by decide +kernel
theorem dX11_readNumber_60 : decode cX11_readNumber 60 = .ok (.getfield 168, 3) := by decide +kernel
theorem dX11_readNumber_63 : decode cX11_readNumber 63 = .ok (.ifCond .ne 10, 3) := by decide +kernel
theorem dX11_readNumber_66 : decode cX11_readNumber 66 = .ok (.aload_n 0, 1) := by decide +kernel
theorem dX11_readNumber_67 : decode cX11_readNumber 67 = .ok (.getfield 158, 3) := by decide +kernel
theorem dX11_readNumber_70 : decode cX11_readNumber 70 = .ok (.goto 4, 3) := by decide +kernel
theorem dX11_readNumber_73 : decode cX11_readNumber 73 = .ok (.iconst 0, 1) := by decide +kernel
theorem dX11_readNumber_74 : decode cX11_readNumber 74 = .ok (.istore_n 3, 1) := by decide +kernel
theorem dX11_readNumber_75 : decode cX11_readNumber 75 = .ok (.aload_n 0, 1) := by decide +kernel
theorem dX11_readNumber_76 : decode cX11_readNumber 76 = .ok (.getfield 168, 3) := by decide +kernel
theorem dX11_readNumber_79 : decode cX11_readNumber 79 = .ok (.ifCond .ne 7, 3) := by decide +kernel
theorem dX11_readNumber_82 : decode cX11_readNumber 82 = .ok (.aload_n 0, 1) := by decide +kernel
theorem dX11_readNumber_83 : decode cX11_readNumber 83 = .ok (.invokevirtual 193, 3) := by decide +kernel
theorem dX11_readNumber_86 : decode cX11_readNumber 86 = .ok (.iload_n 3, 1) := by decide +kernel
theorem dX11_readNumber_87 : decode cX11_readNumber 87 = .ok (.ireturn, 1) := by decide +kernel
theorem dX11_lay_0 : decode cX11_lay 0 = .ok (.aload_n 0, 1) := by decide +kernel
theorem dX11_lay_1 : decode cX11_lay 1 = .ok (.getfield 168, 3) := by decide +kernel
theorem dX11_lay_4 : decode cX11_lay 4 = .ok (.ifCond .eq 4, 3) := by decide +kernel
theorem dX11_lay_7 : decode cX11_lay 7 = .ok (.return_, 1) := by decide +kernel
theorem dX11_lay_8 : decode cX11_lay 8 = .ok (.bipush 10, 2) := by decide +kernel
theorem dX11_lay_10 : decode cX11_lay 10 = .ok (.aload_n 0, 1) := by decide +kernel
theorem dX11_lay_11 : decode cX11_lay 11 = .ok (.getfield 196, 3) := by decide +kernel
theorem dX11_lay_14 : decode cX11_lay 14 = .ok (.ifCond .eq 8, 3) := by decide +kernel
theorem dX11_lay_17 : decode cX11_lay 17 = .ok (.bipush 9, 2) := by decide +kernel
theorem dX11_lay_19 : decode cX11_lay 19 = .ok (.goto 5, 3) := by decide +kernel
theorem dX11_lay_22 : decode cX11_lay 22 = .ok (.bipush 8, 2) := by decide +kernel
theorem dX11_lay_24 : decode cX11_lay 24 = .ok (.iadd, 1) := by decide +kernel
theorem dX11_lay_25 : decode cX11_lay 25 = .ok (.istore_n 2, 1) := by decide +kernel
theorem dX11_lay_26 : decode cX11_lay 26 = .ok (.aload_n 0, 1) := by decide +kernel
theorem dX11_lay_27 : decode cX11_lay 27 = .ok (.getfield 196, 3) := by decide +kernel
theorem dX11_lay_30 : decode cX11_lay 30 = .ok (.ifCond .eq 22, 3) := by decide +kernel
theorem dX11_lay_33 : decode cX11_lay 33 = .ok (.aload_n 0, 1) := by decide +kernel
theorem dX11_lay_34 : decode cX11_lay 34 = .ok (.getfield 53, 3) := by decide +kernel
theorem dX11_lay_37 : decode cX11_lay 37 = .ok (.sipush 700, 3) := by decide +kernel
theorem dX11_lay_40 : decode cX11_lay 40 = .ok (.aload_n 0, 1) := by decide +kernel
theorem dX11_lay_41 : decode cX11_lay 41 = .ok (.getfield 44, 3) := by decide +kernel
theorem dX11_lay_44 : decode cX11_lay 44 = .ok (.iload_n 2, 1) := by decide +kernel
theorem dX11_lay_45 : decode cX11_lay 45 = .ok (.iaload, 1) := by decide +kernel
theorem dX11_lay_46 : decode cX11_lay 46 = .ok (.iadd, 1) := by decide +kernel
theorem dX11_lay_47 : decode cX11_lay 47 = .ok (.iload_n 1, 1) := by decide +kernel
theorem dX11_lay_48 : decode cX11_lay 48 = .ok (.iastore, 1) := by decide +kernel
theorem dX11_lay_49 : decode cX11_lay 49 = .ok (.goto 19, 3) := by decide +kernel
theorem dX11_lay_52 : decode cX11_lay 52 = .ok (.aload_n 0, 1) := by decide +kernel
theorem dX11_lay_53 : decode cX11_lay 53 = .ok (.getfield 50, 3) := by decide +kernel
theorem dX11_lay_56 : decode cX11_lay 56 = .ok (.sipush 700, 3) := by decide +kernel
theorem dX11_lay_59 : decode cX11_lay 59 = .ok (.aload_n 0, 1) := by decide +kernel
theorem dX11_lay_60 : decode cX11_lay 60 = .ok (.getfield 44, 3) := by decide +kernel
theorem dX11_lay_63 : decode cX11_lay 63 = .ok (.iload_n 2, 1) := by decide +kernel
theorem dX11_lay_64 : decode cX11_lay 64 = .ok (.iaload, 1) := by decide +kernel
theorem dX11_lay_65 : decode cX11_lay 65 = .ok (.iadd, 1) := by decide +kernel
theorem dX11_lay_66 : decode cX11_lay 66 = .ok (.iload_n 1, 1) := by decide +kernel
theorem dX11_lay_67 : decode cX11_lay 67 = .ok (.iastore, 1) := by decide +kernel
theorem dX11_lay_68 : decode cX11_lay 68 = .ok (.aload_n 0, 1) := by decide +kernel
theorem dX11_lay_69 : decode cX11_lay 69 = .ok (.getfield 44, 3) := by decide +kernel
theorem dX11_lay_72 : decode cX11_lay 72 = .ok (.iload_n 2, 1) := by decide +kernel
theorem dX11_lay_73 : decode cX11_lay 73 = .ok (.dup2, 1) := by decide +kernel
theorem dX11_lay_74 : decode cX11_lay 74 = .ok (.iaload, 1) := by decide +kernel
theorem dX11_lay_75 : decode cX11_lay 75 = .ok (.iconst 1, 1) := by decide +kernel
theorem dX11_lay_76 : decode cX11_lay 76 = .ok (.iadd, 1) := by decide +kernel
theorem dX11_lay_77 : decode cX11_lay 77 = .ok (.iastore, 1) := by decide +kernel
theorem dX11_lay_78 : decode cX11_lay 78 = .ok (.return_, 1) := by decide +kernel
theorem dX11_readPart_0 : decode cX11_readPart 0 = .ok (.aload_n 0, 1) := by decide +kernel
theorem dX11_readPart_1 : decode cX11_readPart 1 = .ok (.getfield 168, 3) := by decide +kernel
theorem dX11_readPart_4 : decode cX11_readPart 4 = .ok (.ifCond .eq 4, 3) := by decide +kernel
theorem dX11_readPart_7 : decode cX11_readPart 7 = .ok (.return_, 1) := by decide +kernel
theorem dX11_readPart_8 : decode cX11_readPart 8 = .ok (.aload_n 0, 1) := by decide +kernel
theorem dX11_readPart_9 : decode cX11_readPart 9 = .ok (.getfield 148, 3) := by decide +kernel
theorem dX11_readPart_12 : decode cX11_readPart 12 = .ok (.iconst 2, 1) := by decide +kernel
theorem dX11_readPart_13 : decode cX11_readPart 13 = .ok (.if_icmp .ne 16, 3) := by decide +kernel
theorem dX11_readPart_16 : decode cX11_readPart 16 = .ok (.aload_n 0, 1) := by decide +kernel
theorem dX11_readPart_17 : decode cX11_readPart 17 = .ok (.aload_n 0, 1) := by decide +kernel
theorem dX11_readPart_18 : decode cX11_readPart 18 = .ok (.iconst 0, 1) := by decide +kernel
theorem dX11_readPart_19 : decode cX11_readPart 19 = .ok (.sipush 9999, 3) := by decide +kernel
theorem dX11_readPart_22 : decode cX11_readPart 22 = .ok (.invokevirtual 200, 3) := by decide +kernel
theorem dX11_readPart_25 : decode cX11_readPart 25 = .ok (.invokevirtual 203, 3) := by decide +kernel
theorem dX11_readPart_28 : decode cX11_readPart 28 = .ok (.return_, 1) := by decide +kernel
theorem dX11_readPart_29 : decode cX11_readPart 29 = .ok (.aload_n 0, 1) := by decide +kernel
theorem dX11_readPart_30 : decode cX11_readPart 30 = .ok (.getfield 148, 3) := by decide +kernel
theorem dX11_readPart_33 : decode cX11_readPart 33 = .ok (.iconst 1, 1) := by decide +kernel
theorem dX11_readPart_34 : decode cX11_readPart 34 = .ok (.if_icmp .ne 41, 3) := by decide +kernel
theorem dX11_readPart_37 : decode cX11_readPart 37 = .ok (.aload_n 0, 1) := by decide +kernel
theorem dX11_readPart_38 : decode cX11_readPart 38 = .ok (.aload_n 0, 1) := by decide +kernel
theorem dX11_readPart_39 : decode cX11_readPart 39 = .ok (.getfield 19, 3) := by decide +kernel
theorem dX11_readPart_42 : decode cX11_readPart 42 = .ok (.invokevirtual 206, 3) := by decide +kernel
theorem dX11_readPart_45 : decode cX11_readPart 45 = .ok (.istore_n 2, 1) := by decide +kernel
theorem dX11_readPart_46 : decode cX11_readPart 46 = .ok (.iload_n 2, 1) := by decide +kernel
theorem dX11_readPart_47 : decode cX11_readPart 47 = .ok (.iconst (-1), 1) := by decide +kernel
theorem dX11_readPart_48 : decode cX11_readPart 48 = .ok (.if_icmp .ne 8, 3) := by decide +kernel
theorem dX11_readPart_51 : decode cX11_readPart 51 = .ok (.aload_n 0, 1) := by decide +kernel
theorem dX11_readPart_52 : decode cX11_readPart 52 = .ok (.iconst 3, 1) := by decide +kernel
theorem dX11_readPart_53 : decode cX11_readPart 53 = .ok (.invokevirtual 189, 3) := by decide +kernel
theorem dX11_readPart_56 : decode cX11_readPart 56 = .ok (.aload_n 0, 1) := by decide +kernel
theorem dX11_readPart_57 : decode cX11_readPart 57 = .ok (.iconst (-1), 1) := by decide +kernel
theorem dX11_readPart_58 : decode cX11_readPart 58 = .ok (.iload_n 2, 1) := by decide +kernel
theorem dX11_readPart_59 : decode cX11_readPart 59 = .ok (.isub, 1) := by decide +kernel
theorem dX11_readPart_60 : decode cX11_readPart 60 = .ok (.invokevirtual 203, 3) := by decide +kernel
theorem dX11_readPart_63 : decode cX11_readPart 63 = .ok (.aload_n 0, 1) := by decide +kernel
theorem dX11_readPart_64 : decode cX11_readPart 64 = .ok (.getfield 168, 3) := by decide +kernel
theorem dX11_readPart_67 : decode cX11_readPart 67 = .ok (.ifCond .ne 7, 3) := by decide +kernel
theorem dX11_readPart_70 : decode cX11_readPart 70 = .ok (.aload_n 0, 1) := by decide +kernel
theorem dX11_readPart_71 : decode cX11_readPart 71 = .ok (.invokevirtual 193, 3) := by decide +kernel
theorem dX11_readPart_74 : decode cX11_readPart 74 = .ok (.return_, 1) := by decide +kernel
theorem dX11_readPart_75 : decode cX11_readPart 75 = .ok (.aload_n 0, 1) := by decide +kernel
theorem dX11_readPart_76 : decode cX11_readPart 76 = .ok (.bipush 40, 2) := by decide +kernel
theorem dX11_readPart_78 : decode cX11_readPart 78 = .ok (.invokevirtual 210, 3) := by decide +kernel
theorem dX11_readPart_81 : decode cX11_readPart 81 = .ok (.aload_n 0, 1) := by decide +kernel
theorem dX11_readPart_82 : decode cX11_readPart 82 = .ok (.iload_n 1, 1) := by decide +kernel
theorem dX11_readPart_83 : decode cX11_readPart 83 = .ok (.iconst 1, 1) := by decide +kernel
theorem dX11_readPart_84 : decode cX11_readPart 84 = .ok (.iadd, 1) := by decide +kernel
theorem dX11_readPart_85 : decode cX11_readPart 85 = .ok (.invokevirtual 213, 3) := by decide +kernel
theorem dX11_readPart_88 : decode cX11_readPart 88 = .ok (.aload_n 0, 1) := by decide +kernel
theorem dX11_readPart_89 : decode cX11_readPart 89 = .ok (.bipush 41, 2) := by decide +kernel
theorem dX11_readPart_91 : decode cX11_readPart 91 = .ok (.invokevirtual 210, 3) := by decide +kernel
theorem dX11_readPart_94 : decode cX11_readPart 94 = .ok (.return_, 1) := by decide +kernel
theorem dX11_readProduct_0 : decode cX11_readProduct 0 = .ok (.aload_n 0, 1) := by decide +kernel
theorem dX11_readProduct_1 : decode cX11_readProduct 1 = .ok (.iload_n 1, 1) := by decide +kernel
theorem dX11_readProduct_2 : decode cX11_readProduct 2 = .ok (.invokevirtual 216, 3) := by decide +kernel
theorem dX11_readProduct_5 : decode cX11_readProduct 5 = .ok (.aload_n 0, 1) := by decide +kernel
theorem dX11_readProduct_6 : decode cX11_readProduct 6 = .ok (.bipush 42, 2) := by decide +kernel
theorem dX11_readProduct_8 : decode cX11_readProduct 8 = .ok (.invokevirtual 186, 3) := by decide +kernel
theorem dX11_readProduct_11 : decode cX11_readProduct 11 = .ok (.ifCond .ne 12, 3) := by decide +kernel
theorem dX11_readProduct_14 : decode cX11_readProduct 14 = .ok (.aload_n 0, 1) := by decide +kernel
theorem dX11_readProduct_15 : decode cX11_readProduct 15 = .ok (.bipush 47, 2) := by decide +kernel
theorem dX11_readProduct_17 : decode cX11_readProduct 17 = .ok (.invokevirtual 186, 3) := by decide +kernel
theorem dX11_readProduct_20 : decode cX11_readProduct 20 = .ok (.ifCond .eq 37, 3) := by decide +kernel
theorem dX11_readProduct_23 : decode cX11_readProduct 23 = .ok (.aload_n 0, 1) := by decide +kernel
theorem dX11_readProduct_24 : decode cX11_readProduct 24 = .ok (.bipush 42, 2) := by decide +kernel
theorem dX11_readProduct_26 : decode cX11_readProduct 26 = .ok (.invokevirtual 186, 3) := by decide +kernel
theorem dX11_readProduct_29 : decode cX11_readProduct 29 = .ok (.ifCond .eq 8, 3) := by decide +kernel
theorem dX11_readProduct_32 : decode cX11_readProduct 32 = .ok (.bipush (-22), 2) := by decide +kernel
theorem dX11_readProduct_34 : decode cX11_readProduct 34 = .ok (.goto 5, 3) := by decide +kernel
theorem dX11_readProduct_37 : decode cX11_readProduct 37 = .ok (.bipush (-23), 2) := by decide +kernel
theorem dX11_readProduct_39 : decode cX11_readProduct 39 = .ok (.istore_n 2, 1) := by decide +kernel
theorem dX11_readProduct_40 : decode cX11_readProduct 40 = .ok (.aload_n 0, 1) := by decide +kernel
theorem dX11_readProduct_41 : decode cX11_readProduct 41 = .ok (.invokevirtual 193, 3) := by decide +kernel
theorem dX11_readProduct_44 : decode cX11_readProduct 44 = .ok (.aload_n 0, 1) := by decide +kernel
theorem dX11_readProduct_45 : decode cX11_readProduct 45 = .ok (.iload_n 1, 1) := by decide +kernel
theorem dX11_readProduct_46 : decode cX11_readProduct 46 = .ok (.invokevirtual 216, 3) := by decide +kernel
theorem dX11_readProduct_49 : decode cX11_readProduct 49 = .ok (.aload_n 0, 1) := by decide +kernel
theorem dX11_readProduct_50 : decode cX11_readProduct 50 = .ok (.iload_n 2, 1) := by decide +kernel
theorem dX11_readProduct_51 : decode cX11_readProduct 51 = .ok (.invokevirtual 203, 3) := by decide +kernel
theorem dX11_readProduct_54 : decode cX11_readProduct 54 = .ok (.goto (-49), 3) := by decide +kernel
theorem dX11_readProduct_57 : decode cX11_readProduct 57 = .ok (.return_, 1) := by decide +kernel
theorem dX11_readSum_0 : decode cX11_readSum 0 = .ok (.aload_n 0, 1) := by decide +kernel
theorem dX11_readSum_1 : decode cX11_readSum 1 = .ok (.iload_n 1, 1) := by decide +kernel
theorem dX11_readSum_2 : decode cX11_readSum 2 = .ok (.invokevirtual 219, 3) := by decide +kernel
theorem dX11_readSum_5 : decode cX11_readSum 5 = .ok (.aload_n 0, 1) := by decide +kernel
theorem dX11_readSum_6 : decode cX11_readSum 6 = .ok (.bipush 43, 2) := by decide +kernel
theorem dX11_readSum_8 : decode cX11_readSum 8 = .ok (.invokevirtual 186, 3) := by decide +kernel
theorem dX11_readSum_11 : decode cX11_readSum 11 = .ok (.ifCond .ne 12, 3) := by decide +kernel
theorem dX11_readSum_14 : decode cX11_readSum 14 = .ok (.aload_n 0, 1) := by decide +kernel
theorem dX11_readSum_15 : decode cX11_readSum 15 = .ok (.bipush 45, 2) := by decide +kernel
theorem dX11_readSum_17 : decode cX11_readSum 17 = .ok (.invokevirtual 186, 3) := by decide +kernel
theorem dX11_readSum_20 : decode cX11_readSum 20 = .ok (.ifCond .eq 37, 3) := by decide +kernel
theorem dX11_readSum_23 : decode cX11_readSum 23 = .ok (.aload_n 0, 1) := by decide +kernel
theorem dX11_readSum_24 : decode cX11_readSum 24 = .ok (.bipush 43, 2) := by decide +kernel
theorem dX11_readSum_26 : decode cX11_readSum 26 = .ok (.invokevirtual 186, 3) := by decide +kernel
theorem dX11_readSum_29 : decode cX11_readSum 29 = .ok (.ifCond .eq 8, 3) := by decide +kernel
theorem dX11_readSum_32 : decode cX11_readSum 32 = .ok (.bipush (-20), 2) := by decide +kernel
theorem dX11_readSum_34 : decode cX11_readSum 34 = .ok (.goto 5, 3) := by decide +kernel
theorem dX11_readSum_37 : decode cX11_readSum 37 = .ok (.bipush (-21), 2) := by decide +kernel
theorem dX11_readSum_39 : decode cX11_readSum 39 = .ok (.istore_n 2, 1) := by decide +kernel
theorem dX11_readSum_40 : decode cX11_readSum 40 = .ok (.aload_n 0, 1) := by decide +kernel
theorem dX11_readSum_41 : decode cX11_readSum 41 = .ok (.invokevirtual 193, 3) := by decide +kernel
theorem dX11_readSum_44 : decode cX11_readSum 44 = .ok (.aload_n 0, 1) := by decide +kernel
theorem dX11_readSum_45 : decode cX11_readSum 45 = .ok (.iload_n 1, 1) := by decide +kernel
theorem dX11_readSum_46 : decode cX11_readSum 46 = .ok (.invokevirtual 219, 3) := by decide +kernel
theorem dX11_readSum_49 : decode cX11_readSum 49 = .ok (.aload_n 0, 1) := by decide +kernel
theorem dX11_readSum_50 : decode cX11_readSum 50 = .ok (.iload_n 2, 1) := by decide +kernel
theorem dX11_readSum_51 : decode cX11_readSum 51 = .ok (.invokevirtual 203, 3) := by decide +kernel
theorem dX11_readSum_54 : decode cX11_readSum 54 = .ok (.goto (-49), 3) := by decide +kernel
theorem dX11_readSum_57 : decode cX11_readSum 57 = .ok (.return_, 1) := by decide +kernel
theorem dX11_readNot_0 : decode cX11_readNot 0 = .ok (.iconst 0, 1) := by decide +kernel
theorem dX11_readNot_1 : decode cX11_readNot 1 = .ok (.istore_n 2, 1) := by decide +kernel
theorem dX11_readNot_2 : decode cX11_readNot 2 = .ok (.aload_n 0, 1) := by decide +kernel
theorem dX11_readNot_3 : decode cX11_readNot 3 = .ok (.ldc 222, 2) := by decide +kernel
theorem dX11_readNot_5 : decode cX11_readNot 5 = .ok (.invokevirtual 182, 3) := by decide +kernel
theorem dX11_readNot_8 : decode cX11_readNot 8 = .ok (.ifCond .eq 31, 3) := by decide +kernel
theorem dX11_readNot_11 : decode cX11_readNot 11 = .ok (.iload_n 2, 1) := by decide +kernel
theorem dX11_readNot_12 : decode cX11_readNot 12 = .ok (.bipush 6, 2) := by decide +kernel
theorem dX11_readNot_14 : decode cX11_readNot 14 = .ok (.if_icmp .ne 8, 3) := by decide +kernel
theorem dX11_readNot_17 : decode cX11_readNot 17 = .ok (.aload_n 0, 1) := by decide +kernel
theorem dX11_readNot_18 : decode cX11_readNot 18 = .ok (.iconst 2, 1) := by decide +kernel
theorem dX11_readNot_19 : decode cX11_readNot 19 = .ok (.invokevirtual 189, 3) := by decide +kernel
theorem dX11_readNot_22 : decode cX11_readNot 22 = .ok (.iinc 2 1, 3) := by decide +kernel
theorem dX11_readNot_25 : decode cX11_readNot 25 = .ok (.aload_n 0, 1) := by decide +kernel
theorem dX11_readNot_26 : decode cX11_readNot 26 = .ok (.getfield 168, 3) := by decide +kernel
theorem dX11_readNot_29 : decode cX11_readNot 29 = .ok (.ifCond .ne (-27), 3) := by decide +kernel
theorem dX11_readNot_32 : decode cX11_readNot 32 = .ok (.aload_n 0, 1) := by decide +kernel
theorem dX11_readNot_33 : decode cX11_readNot 33 = .ok (.invokevirtual 193, 3) := by decide +kernel
theorem dX11_readNot_36 : decode cX11_readNot 36 = .ok (.goto (-34), 3) := by decide +kernel
theorem dX11_readNot_39 : decode cX11_readNot 39 = .ok (.aload_n 0, 1) := by decide +kernel
theorem dX11_readNot_40 : decode cX11_readNot 40 = .ok (.iload_n 1, 1) := by decide +kernel
theorem dX11_readNot_41 : decode cX11_readNot 41 = .ok (.invokevirtual 224, 3) := by decide +kernel
theorem dX11_readNot_44 : decode cX11_readNot 44 = .ok (.aload_n 0, 1) := by decide +kernel
theorem dX11_readNot_45 : decode cX11_readNot 45 = .ok (.bipush 60, 2) := by decide +kernel
theorem dX11_readNot_47 : decode cX11_readNot 47 = .ok (.invokevirtual 186, 3) := by decide +kernel
theorem dX11_readNot_50 : decode cX11_readNot 50 = .ok (.ifCond .ne 12, 3) := by decide +kernel
theorem dX11_readNot_53 : decode cX11_readNot 53 = .ok (.aload_n 0, 1) := by decide +kernel
theorem dX11_readNot_54 : decode cX11_readNot 54 = .ok (.bipush 61, 2) := by decide +kernel
theorem dX11_readNot_56 : decode cX11_readNot 56 = .ok (.invokevirtual 186, 3) := by decide +kernel
theorem dX11_readNot_59 : decode cX11_readNot 59 = .ok (.ifCond .eq 34, 3) := by decide +kernel
theorem dX11_readNot_62 : decode cX11_readNot 62 = .ok (.aload_n 0, 1) := by decide +kernel
theorem dX11_readNot_63 : decode cX11_readNot 63 = .ok (.bipush 60, 2) := by decide +kernel
theorem dX11_readNot_65 : decode cX11_readNot 65 = .ok (.invokevirtual 186, 3) := by decide +kernel
theorem dX11_readNot_68 : decode cX11_readNot 68 = .ok (.ifCond .eq 8, 3) := by decide +kernel
theorem dX11_readNot_71 : decode cX11_readNot 71 = .ok (.bipush (-24), 2) := by decide +kernel
theorem dX11_readNot_73 : decode cX11_readNot 73 = .ok (.goto 5, 3) := by decide +kernel
theorem dX11_readNot_76 : decode cX11_readNot 76 = .ok (.bipush (-25), 2) := by decide +kernel
theorem dX11_readNot_78 : decode cX11_readNot 78 = .ok (.istore_n 3, 1) := by decide +kernel
theorem dX11_readNot_79 : decode cX11_readNot 79 = .ok (.aload_n 0, 1) := by decide +kernel
theorem dX11_readNot_80 : decode cX11_readNot 80 = .ok (.invokevirtual 193, 3) := by decide +kernel
theorem dX11_readNot_83 : decode cX11_readNot 83 = .ok (.aload_n 0, 1) := by decide +kernel
theorem dX11_readNot_84 : decode cX11_readNot 84 = .ok (.iload_n 1, 1) := by decide +kernel
theorem dX11_readNot_85 : decode cX11_readNot 85 = .ok (.invokevirtual 224, 3) := by decide +kernel
theorem dX11_readNot_88 : decode cX11_readNot 88 = .ok (.aload_n 0, 1) := by decide +kernel
theorem dX11_readNot_89 : decode cX11_readNot 89 = .ok (.iload_n 3, 1) := by decide +kernel
theorem dX11_readNot_90 : decode cX11_readNot 90 = .ok (.invokevirtual 203, 3) := by decide +kernel
theorem dX11_readNot_93 : decode cX11_readNot 93 = .ok (.iconst 0, 1) := by decide +kernel
theorem dX11_readNot_94 : decode cX11_readNot 94 = .ok (.istore_n 3, 1) := by decide +kernel
theorem dX11_readNot_95 : decode cX11_readNot 95 = .ok (.iload_n 3, 1) := by decide +kernel
theorem dX11_readNot_96 : decode cX11_readNot 96 = .ok (.iload_n 2, 1) := by decide +kernel
theorem dX11_readNot_97 : decode cX11_readNot 97 = .ok (.if_icmp .ge 15, 3) := by decide +kernel
theorem dX11_readNot_100 : decode cX11_readNot 100 = .ok (.aload_n 0, 1) := by decide +kernel
theorem dX11_readNot_101 : decode cX11_readNot 101 = .ok (.bipush (-28), 2) := by decide +kernel
theorem dX11_readNot_103 : decode cX11_readNot 103 = .ok (.invokevirtual 203, 3) := by decide +kernel
theorem dX11_readNot_106 : decode cX11_readNot 106 = .ok (.iinc 3 1, 3) := by decide +kernel
theorem dX11_readNot_109 : decode cX11_readNot 109 = .ok (.goto (-14), 3) := by decide +kernel
theorem dX11_readNot_112 : decode cX11_readNot 112 = .ok (.return_, 1) := by decide +kernel
theorem dX11_readAnd_0 : decode cX11_readAnd 0 = .ok (.aload_n 0, 1) := by decide +kernel
theorem dX11_readAnd_1 : decode cX11_readAnd 1 = .ok (.iload_n 1, 1) := by decide +kernel
theorem dX11_readAnd_2 : decode cX11_readAnd 2 = .ok (.invokevirtual 227, 3) := by decide +kernel
theorem dX11_readAnd_5 : decode cX11_readAnd 5 = .ok (.aload_n 0, 1) := by decide +kernel
theorem dX11_readAnd_6 : decode cX11_readAnd 6 = .ok (.ldc 230, 2) := by decide +kernel
theorem dX11_readAnd_8 : decode cX11_readAnd 8 = .ok (.invokevirtual 182, 3) := by decide +kernel
theorem dX11_readAnd_11 : decode cX11_readAnd 11 = .ok (.ifCond .eq 21, 3) := by decide +kernel
theorem dX11_readAnd_14 : decode cX11_readAnd 14 = .ok (.aload_n 0, 1) := by decide +kernel
theorem dX11_readAnd_15 : decode cX11_readAnd 15 = .ok (.invokevirtual 193, 3) := by decide +kernel
theorem dX11_readAnd_18 : decode cX11_readAnd 18 = .ok (.aload_n 0, 1) := by decide +kernel
theorem dX11_readAnd_19 : decode cX11_readAnd 19 = .ok (.iload_n 1, 1) := by decide +kernel
theorem dX11_readAnd_20 : decode cX11_readAnd 20 = .ok (.invokevirtual 227, 3) := by decide +kernel
theorem dX11_readAnd_23 : decode cX11_readAnd 23 = .ok (.aload_n 0, 1) := by decide +kernel
theorem dX11_readAnd_24 : decode cX11_readAnd 24 = .ok (.bipush (-26), 2) := by decide +kernel
theorem dX11_readAnd_26 : decode cX11_readAnd 26 = .ok (.invokevirtual 203, 3) := by decide +kernel
theorem dX11_readAnd_29 : decode cX11_readAnd 29 = .ok (.goto (-24), 3) := by decide +kernel
theorem dX11_readAnd_32 : decode cX11_readAnd 32 = .ok (.return_, 1) := by decide +kernel
theorem dX11_readExpression_0 : decode cX11_readExpression 0 = .ok (.aload_n 0, 1) := by decide +kernel
theorem dX11_readExpression_1 : decode cX11_readExpression 1 = .ok (.getfield 168, 3) := by decide +kernel
theorem dX11_readExpression_4 : decode cX11_readExpression 4 = .ok (.ifCond .eq 4, 3) := by decide +kernel
theorem dX11_readExpression_7 : decode cX11_readExpression 7 = .ok (.return_, 1) := by decide +kernel
theorem dX11_readExpression_8 : decode cX11_readExpression 8 = .ok (.aload_n 0, 1) := by decide +kernel
theorem dX11_readExpression_9 : decode cX11_readExpression 9 = .ok (.getfield 148, 3) := by decide +kernel
theorem dX11_readExpression_12 : decode cX11_readExpression 12 = .ok (.iconst 2, 1) := by decide +kernel
theorem dX11_readExpression_13 : decode cX11_readExpression 13 = .ok (.if_icmp .eq 20, 3) := by decide +kernel
theorem dX11_readExpression_16 : decode cX11_readExpression 16 = .ok (.aload_n 0, 1) := by decide +kernel
theorem dX11_readExpression_17 : decode cX11_readExpression 17 = .ok (.getfield 148, 3) := by decide +kernel
theorem dX11_readExpression_20 : decode cX11_readExpression 20 = .ok (.iconst 1, 1) := by decide +kernel
theorem dX11_readExpression_21 : decode cX11_readExpression 21 = .ok (.if_icmp .eq 12, 3) := by decide +kernel
theorem dX11_readExpression_24 : decode cX11_readExpression 24 = .ok (.aload_n 0, 1) := by decide +kernel
theorem dX11_readExpression_25 : decode cX11_readExpression 25 = .ok (.bipush 40, 2) := by decide +kernel
theorem dX11_readExpression_27 : decode cX11_readExpression 27 = .ok (.invokevirtual 186, 3) := by decide +kernel
theorem dX11_readExpression_30 : decode cX11_readExpression 30 = .ok (.ifCond .eq 7, 3) := by decide +kernel
theorem dX11_readExpression_33 : decode cX11_readExpression 33 = .ok (.iconst 1, 1) := by decide +kernel
theorem dX11_readExpression_34 : decode cX11_readExpression 34 = .ok (.goto 4, 3) := by decide +kernel
theorem dX11_readExpression_37 : decode cX11_readExpression 37 = .ok (.iconst 0, 1) := by decide +kernel
theorem dX11_readExpression_38 : decode cX11_readExpression 38 = .ok (.istore_n 2, 1) := by decide +kernel
theorem dX11_readExpression_39 : decode cX11_readExpression 39 = .ok (.iload_n 2, 1) := by decide +kernel
theorem dX11_readExpression_40 : decode cX11_readExpression 40 = .ok (.ifCond .ne 11, 3) := by decide +kernel
theorem dX11_readExpression_43 : decode cX11_readExpression 43 = .ok (.aload_n 0, 1) := by decide +kernel
theorem dX11_readExpression_44 : decode cX11_readExpression 44 = .ok (.iconst 1, 1) := by decide +kernel
theorem dX11_readExpression_45 : decode cX11_readExpression 45 = .ok (.invokevirtual 189, 3) := by decide +kernel
theorem dX11_readExpression_48 : decode cX11_readExpression 48 = .ok (.goto 14, 3) := by decide +kernel
theorem dX11_readExpression_51 : decode cX11_readExpression 51 = .ok (.iload_n 1, 1) := by decide +kernel
theorem dX11_readExpression_52 : decode cX11_readExpression 52 = .ok (.bipush 6, 2) := by decide +kernel
theorem dX11_readExpression_54 : decode cX11_readExpression 54 = .ok (.if_icmp .ne 8, 3) := by decide +kernel
theorem dX11_readExpression_57 : decode cX11_readExpression 57 = .ok (.aload_n 0, 1) := by decide +kernel
theorem dX11_readExpression_58 : decode cX11_readExpression 58 = .ok (.iconst 2, 1) := by decide +kernel
theorem dX11_readExpression_59 : decode cX11_readExpression 59 = .ok (.invokevirtual 189, 3) := by decide +kernel
theorem dX11_readExpression_62 : decode cX11_readExpression 62 = .ok (.aload_n 0, 1) := by decide +kernel
theorem dX11_readExpression_63 : decode cX11_readExpression 63 = .ok (.iload_n 1, 1) := by decide +kernel
theorem dX11_readExpression_64 : decode cX11_readExpression 64 = .ok (.invokevirtual 232, 3) := by decide +kernel
theorem dX11_readExpression_67 : decode cX11_readExpression 67 = .ok (.aload_n 0, 1) := by decide +kernel
theorem dX11_readExpression_68 : decode cX11_readExpression 68 = .ok (.ldc 235, 2) := by decide +kernel
theorem dX11_readExpression_70 : decode cX11_readExpression 70 = .ok (.invokevirtual 182, 3) := by decide +kernel
theorem dX11_readExpression_73 : decode cX11_readExpression 73 = .ok (.ifCond .eq 21, 3) := by decide +kernel
theorem dX11_readExpression_76 : decode cX11_readExpression 76 = .ok (.aload_n 0, 1) := by decide +kernel
theorem dX11_readExpression_77 : decode cX11_readExpression 77 = .ok (.invokevirtual 193, 3) := by decide +kernel
theorem dX11_readExpression_80 : decode cX11_readExpression 80 = .ok (.aload_n 0, 1) := by decide +kernel
theorem dX11_readExpression_81 : decode cX11_readExpression 81 = .ok (.iload_n 1, 1) := by decide +kernel
theorem dX11_readExpression_82 : decode cX11_readExpression 82 = .ok (.invokevirtual 232, 3) := by decide +kernel
theorem dX11_readExpression_85 : decode cX11_readExpression 85 = .ok (.aload_n 0, 1) := by decide +kernel
theorem dX11_readExpression_86 : decode cX11_readExpression 86 = .ok (.bipush (-27), 2) := by decide +kernel
theorem dX11_readExpression_88 : decode cX11_readExpression 88 = .ok (.invokevirtual 203, 3) := by decide +kernel
theorem dX11_readExpression_91 : decode cX11_readExpression 91 = .ok (.goto (-24), 3) := by decide +kernel
theorem dX11_readExpression_94 : decode cX11_readExpression 94 = .ok (.return_, 1) := by decide +kernel
theorem dX11_readWord_0 : decode cX11_readWord 0 = .ok (.aload_n 0, 1) := by decide +kernel
theorem dX11_readWord_1 : decode cX11_readWord 1 = .ok (.getfield 44, 3) := by decide +kernel
theorem dX11_readWord_4 : decode cX11_readWord 4 = .ok (.bipush 17, 2) := by decide +kernel
theorem dX11_readWord_6 : decode cX11_readWord 6 = .ok (.iconst 0, 1) := by decide +kernel
theorem dX11_readWord_7 : decode cX11_readWord 7 = .ok (.iastore, 1) := by decide +kernel
theorem dX11_readWord_8 : decode cX11_readWord 8 = .ok (.aload_n 0, 1) := by decide +kernel
theorem dX11_readWord_9 : decode cX11_readWord 9 = .ok (.getfield 168, 3) := by decide +kernel
theorem dX11_readWord_12 : decode cX11_readWord 12 = .ok (.ifCond .ne 28, 3) := by decide +kernel
theorem dX11_readWord_15 : decode cX11_readWord 15 = .ok (.aload_n 0, 1) := by decide +kernel
theorem dX11_readWord_16 : decode cX11_readWord 16 = .ok (.getfield 148, 3) := by decide +kernel
theorem dX11_readWord_19 : decode cX11_readWord 19 = .ok (.iconst 2, 1) := by decide +kernel
theorem dX11_readWord_20 : decode cX11_readWord 20 = .ok (.if_icmp .ne 20, 3) := by decide +kernel
theorem dX11_readWord_23 : decode cX11_readWord 23 = .ok (.aload_n 0, 1) := by decide +kernel
theorem dX11_readWord_24 : decode cX11_readWord 24 = .ok (.getfield 44, 3) := by decide +kernel
theorem dX11_readWord_27 : decode cX11_readWord 27 = .ok (.bipush 17, 2) := by decide +kernel
theorem dX11_readWord_29 : decode cX11_readWord 29 = .ok (.iaload, 1) := by decide +kernel
theorem dX11_readWord_30 : decode cX11_readWord 30 = .ok (.bipush 16, 2) := by decide +kernel
theorem dX11_readWord_32 : decode cX11_readWord 32 = .ok (.if_icmp .ne 8, 3) := by decide +kernel
theorem dX11_readWord_35 : decode cX11_readWord 35 = .ok (.aload_n 0, 1) := by decide +kernel
theorem dX11_readWord_36 : decode cX11_readWord 36 = .ok (.iconst 2, 1) := by decide +kernel
theorem dX11_readWord_37 : decode cX11_readWord 37 = .ok (.invokevirtual 189, 3) := by decide +kernel
theorem dX11_readWord_40 : decode cX11_readWord 40 = .ok (.aload_n 0, 1) := by decide +kernel
theorem dX11_readWord_41 : decode cX11_readWord 41 = .ok (.iconst 0, 1) := by decide +kernel
theorem dX11_readWord_42 : decode cX11_readWord 42 = .ok (.sipush 255, 3) := by decide +kernel
theorem dX11_readWord_45 : decode cX11_readWord 45 = .ok (.invokevirtual 200, 3) := by decide +kernel
theorem dX11_readWord_48 : decode cX11_readWord 48 = .ok (.istore_n 1, 1) := by decide +kernel
theorem dX11_readWord_49 : decode cX11_readWord 49 = .ok (.aload_n 0, 1) := by decide +kernel
theorem dX11_readWord_50 : decode cX11_readWord 50 = .ok (.getfield 168, 3) := by decide +kernel
theorem dX11_readWord_53 : decode cX11_readWord 53 = .ok (.ifCond .ne 30, 3) := by decide +kernel
theorem dX11_readWord_56 : decode cX11_readWord 56 = .ok (.aload_n 0, 1) := by decide +kernel
theorem dX11_readWord_57 : decode cX11_readWord 57 = .ok (.getfield 48, 3) := by decide +kernel
theorem dX11_readWord_60 : decode cX11_readWord 60 = .ok (.bipush 16, 2) := by decide +kernel
theorem dX11_readWord_62 : decode cX11_readWord 62 = .ok (.aload_n 0, 1) := by decide +kernel
theorem dX11_readWord_63 : decode cX11_readWord 63 = .ok (.getfield 44, 3) := by decide +kernel
theorem dX11_readWord_66 : decode cX11_readWord 66 = .ok (.bipush 17, 2) := by decide +kernel
theorem dX11_readWord_68 : decode cX11_readWord 68 = .ok (.iaload, 1) := by decide +kernel
theorem dX11_readWord_69 : decode cX11_readWord 69 = .ok (.iadd, 1) := by decide +kernel
theorem dX11_readWord_70 : decode cX11_readWord 70 = .ok (.iload_n 1, 1) := by decide +kernel
theorem dX11_readWord_71 : decode cX11_readWord 71 = .ok (.iastore, 1) := by decide +kernel
theorem dX11_readWord_72 : decode cX11_readWord 72 = .ok (.aload_n 0, 1) := by decide +kernel
theorem dX11_readWord_73 : decode cX11_readWord 73 = .ok (.getfield 44, 3) := by decide +kernel
theorem dX11_readWord_76 : decode cX11_readWord 76 = .ok (.bipush 17, 2) := by decide +kernel
theorem dX11_readWord_78 : decode cX11_readWord 78 = .ok (.dup2, 1) := by decide +kernel
theorem dX11_readWord_79 : decode cX11_readWord 79 = .ok (.iaload, 1) := by decide +kernel
theorem dX11_readWord_80 : decode cX11_readWord 80 = .ok (.iconst 1, 1) := by decide +kernel
theorem dX11_readWord_81 : decode cX11_readWord 81 = .ok (.iadd, 1) := by decide +kernel
theorem dX11_readWord_82 : decode cX11_readWord 82 = .ok (.iastore, 1) := by decide +kernel
theorem dX11_readWord_83 : decode cX11_readWord 83 = .ok (.aload_n 0, 1) := by decide +kernel
theorem dX11_readWord_84 : decode cX11_readWord 84 = .ok (.getfield 168, 3) := by decide +kernel
theorem dX11_readWord_87 : decode cX11_readWord 87 = .ok (.ifCond .ne 11, 3) := by decide +kernel
theorem dX11_readWord_90 : decode cX11_readWord 90 = .ok (.aload_n 0, 1) := by decide +kernel
theorem dX11_readWord_91 : decode cX11_readWord 91 = .ok (.getfield 148, 3) := by decide +kernel
theorem dX11_readWord_94 : decode cX11_readWord 94 = .ok (.iconst 2, 1) := by decide +kernel
theorem dX11_readWord_95 : decode cX11_readWord 95 = .ok (.if_icmp .eq (-87), 3) := by decide +kernel
theorem dX11_readWord_98 : decode cX11_readWord 98 = .ok (.return_, 1) := by decide +kernel
theorem dX11_readClause_0 : decode cX11_readClause 0 = .ok (.iload_n 1, 1) := by decide +kernel
theorem dX11_readClause_1 : decode cX11_readClause 1 = .ok (.ifCond .ne 17, 3) := by decide +kernel
theorem dX11_readClause_4 : decode cX11_readClause 4 = .ok (.aload_n 0, 1) := by decide +kernel
theorem dX11_readClause_5 : decode cX11_readClause 5 = .ok (.getfield 44, 3) := by decide +kernel
theorem dX11_readClause_8 : decode cX11_readClause 8 = .ok (.bipush 10, 2) := by decide +kernel
theorem dX11_readClause_10 : decode cX11_readClause 10 = .ok (.aload_n 0, 1) := by decide +kernel
theorem dX11_readClause_11 : decode cX11_readClause 11 = .ok (.iconst 1, 1) := by decide +kernel
theorem dX11_readClause_12 : decode cX11_readClause 12 = .ok (.bipush 8, 2) := by decide +kernel
theorem dX11_readClause_14 : decode cX11_readClause 14 = .ok (.invokevirtual 200, 3) := by decide +kernel
theorem dX11_readClause_17 : decode cX11_readClause 17 = .ok (.iastore, 1) := by decide +kernel
theorem dX11_readClause_18 : decode cX11_readClause 18 = .ok (.iload_n 1, 1) := by decide +kernel
theorem dX11_readClause_19 : decode cX11_readClause 19 = .ok (.iconst 1, 1) := by decide +kernel
theorem dX11_readClause_20 : decode cX11_readClause 20 = .ok (.if_icmp .ne 17, 3) := by decide +kernel
theorem dX11_readClause_23 : decode cX11_readClause 23 = .ok (.aload_n 0, 1) := by decide +kernel
theorem dX11_readClause_24 : decode cX11_readClause 24 = .ok (.getfield 44, 3) := by decide +kernel
theorem dX11_readClause_27 : decode cX11_readClause 27 = .ok (.bipush 11, 2) := by decide +kernel
theorem dX11_readClause_29 : decode cX11_readClause 29 = .ok (.aload_n 0, 1) := by decide +kernel
theorem dX11_readClause_30 : decode cX11_readClause 30 = .ok (.iconst 1, 1) := by decide +kernel
theorem dX11_readClause_31 : decode cX11_readClause 31 = .ok (.bipush 64, 2) := by decide +kernel
theorem dX11_readClause_33 : decode cX11_readClause 33 = .ok (.invokevirtual 200, 3) := by decide +kernel
theorem dX11_readClause_36 : decode cX11_readClause 36 = .ok (.iastore, 1) := by decide +kernel
theorem dX11_readClause_37 : decode cX11_readClause 37 = .ok (.iload_n 1, 1) := by decide +kernel
theorem dX11_readClause_38 : decode cX11_readClause 38 = .ok (.iconst 2, 1) := by decide +kernel
theorem dX11_readClause_39 : decode cX11_readClause 39 = .ok (.if_icmp .ne 31, 3) := by decide +kernel
theorem dX11_readClause_42 : decode cX11_readClause 42 = .ok (.aload_n 0, 1) := by decide +kernel
theorem dX11_readClause_43 : decode cX11_readClause 43 = .ok (.getfield 44, 3) := by decide +kernel
theorem dX11_readClause_46 : decode cX11_readClause 46 = .ok (.bipush 12, 2) := by decide +kernel
theorem dX11_readClause_48 : decode cX11_readClause 48 = .ok (.aload_n 0, 1) := by decide +kernel
theorem dX11_readClause_49 : decode cX11_readClause 49 = .ok (.iconst 0, 1) := by decide +kernel
theorem dX11_readClause_50 : decode cX11_readClause 50 = .ok (.bipush 9, 2) := by decide +kernel
theorem dX11_readClause_52 : decode cX11_readClause 52 = .ok (.invokevirtual 200, 3) := by decide +kernel
theorem dX11_readClause_55 : decode cX11_readClause 55 = .ok (.iastore, 1) := by decide +kernel
theorem dX11_readClause_56 : decode cX11_readClause 56 = .ok (.aload_n 0, 1) := by decide +kernel
theorem dX11_readClause_57 : decode cX11_readClause 57 = .ok (.getfield 44, 3) := by decide +kernel
theorem dX11_readClause_60 : decode cX11_readClause 60 = .ok (.bipush 13, 2) := by decide +kernel
theorem dX11_readClause_62 : decode cX11_readClause 62 = .ok (.aload_n 0, 1) := by decide +kernel
theorem dX11_readClause_63 : decode cX11_readClause 63 = .ok (.iconst 0, 1) := by decide +kernel
theorem dX11_readClause_64 : decode cX11_readClause 64 = .ok (.bipush 9, 2) := by decide +kernel
theorem dX11_readClause_66 : decode cX11_readClause 66 = .ok (.invokevirtual 200, 3) := by decide +kernel
theorem dX11_readClause_69 : decode cX11_readClause 69 = .ok (.iastore, 1) := by decide +kernel
theorem dX11_readClause_70 : decode cX11_readClause 70 = .ok (.iload_n 1, 1) := by decide +kernel
theorem dX11_readClause_71 : decode cX11_readClause 71 = .ok (.iconst 3, 1) := by decide +kernel
theorem dX11_readClause_72 : decode cX11_readClause 72 = .ok (.if_icmp .ne 17, 3) := by decide +kernel
theorem dX11_readClause_75 : decode cX11_readClause 75 = .ok (.aload_n 0, 1) := by decide +kernel
theorem dX11_readClause_76 : decode cX11_readClause 76 = .ok (.getfield 44, 3) := by decide +kernel
theorem dX11_readClause_79 : decode cX11_readClause 79 = .ok (.bipush 14, 2) := by decide +kernel
theorem dX11_readClause_81 : decode cX11_readClause 81 = .ok (.aload_n 0, 1) := by decide +kernel
theorem dX11_readClause_82 : decode cX11_readClause 82 = .ok (.iconst 1, 1) := by decide +kernel
theorem dX11_readClause_83 : decode cX11_readClause 83 = .ok (.bipush 16, 2) := by decide +kernel
theorem dX11_readClause_85 : decode cX11_readClause 85 = .ok (.invokevirtual 200, 3) := by decide +kernel
theorem dX11_readClause_88 : decode cX11_readClause 88 = .ok (.iastore, 1) := by decide +kernel
theorem dX11_readClause_89 : decode cX11_readClause 89 = .ok (.iload_n 1, 1) := by decide +kernel
theorem dX11_readClause_90 : decode cX11_readClause 90 = .ok (.iconst 4, 1) := by decide +kernel
theorem dX11_readClause_91 : decode cX11_readClause 91 = .ok (.if_icmp .ne 43, 3) := by decide +kernel
theorem dX11_readClause_94 : decode cX11_readClause 94 = .ok (.aload_n 0, 1) := by decide +kernel
theorem dX11_readClause_95 : decode cX11_readClause 95 = .ok (.bipush 45, 2) := by decide +kernel
theorem dX11_readClause_97 : decode cX11_readClause 97 = .ok (.invokevirtual 186, 3) := by decide +kernel
theorem dX11_readClause_100 : decode cX11_readClause 100 = .ok (.istore_n 2, 1) := by decide +kernel
theorem dX11_readClause_101 : decode cX11_readClause 101 = .ok (.iload_n 2, 1) := by decide +kernel
theorem dX11_readClause_102 : decode cX11_readClause 102 = .ok (.ifCond .eq 7, 3) := by decide +kernel
theorem dX11_readClause_105 : decode cX11_readClause 105 = .ok (.aload_n 0, 1) := by decide +kernel
theorem dX11_readClause_106 : decode cX11_readClause 106 = .ok (.invokevirtual 193, 3) := by decide +kernel
theorem dX11_readClause_109 : decode cX11_readClause 109 = .ok (.aload_n 0, 1) := by decide +kernel
theorem dX11_readClause_110 : decode cX11_readClause 110 = .ok (.iconst 0, 1) := by decide +kernel
theorem dX11_readClause_111 : decode cX11_readClause 111 = .ok (.bipush 99, 2) := by decide +kernel
theorem dX11_readClause_113 : decode cX11_readClause 113 = .ok (.invokevirtual 200, 3) := by decide +kernel
theorem dX11_readClause_116 : decode cX11_readClause 116 = .ok (.istore_n 3, 1) := by decide +kernel
theorem dX11_readClause_117 : decode cX11_readClause 117 = .ok (.aload_n 0, 1) := by decide +kernel
theorem dX11_readClause_118 : decode cX11_readClause 118 = .ok (.getfield 44, 3) := by decide +kernel
theorem dX11_readClause_121 : decode cX11_readClause 121 = .ok (.bipush 15, 2) := by decide +kernel
theorem dX11_readClause_123 : decode cX11_readClause 123 = .ok (.iload_n 2, 1) := by decide +kernel
theorem dX11_readClause_124 : decode cX11_readClause 124 = .ok (.ifCond .eq 8, 3) := by decide +kernel
theorem dX11_readClause_127 : decode cX11_readClause 127 = .ok (.iload_n 3, 1) := by decide +kernel
theorem dX11_readClause_128 : decode cX11_readClause 128 = .ok (.ineg, 1) := by decide +kernel
theorem dX11_readClause_129 : decode cX11_readClause 129 = .ok (.goto 4, 3) := by decide +kernel
theorem dX11_readClause_132 : decode cX11_readClause 132 = .ok (.iload_n 3, 1) := by decide +kernel
theorem dX11_readClause_133 : decode cX11_readClause 133 = .ok (.iastore, 1) := by decide +kernel
theorem dX11_readClause_134 : decode cX11_readClause 134 = .ok (.iload_n 1, 1) := by decide +kernel
theorem dX11_readClause_135 : decode cX11_readClause 135 = .ok (.iconst 5, 1) := by decide +kernel
theorem dX11_readClause_136 : decode cX11_readClause 136 = .ok (.if_icmp .ne 17, 3) := by decide +kernel
theorem dX11_readClause_139 : decode cX11_readClause 139 = .ok (.aload_n 0, 1) := by decide +kernel
theorem dX11_readClause_140 : decode cX11_readClause 140 = .ok (.getfield 44, 3) := by decide +kernel
theorem dX11_readClause_143 : decode cX11_readClause 143 = .ok (.bipush 16, 2) := by decide +kernel
theorem dX11_readClause_145 : decode cX11_readClause 145 = .ok (.aload_n 0, 1) := by decide +kernel
theorem dX11_readClause_146 : decode cX11_readClause 146 = .ok (.iconst 1, 1) := by decide +kernel
theorem dX11_readClause_147 : decode cX11_readClause 147 = .ok (.bipush 8, 2) := by decide +kernel
theorem dX11_readClause_149 : decode cX11_readClause 149 = .ok (.invokevirtual 200, 3) := by decide +kernel
theorem dX11_readClause_152 : decode cX11_readClause 152 = .ok (.iastore, 1) := by decide +kernel
theorem dX11_readClause_153 : decode cX11_readClause 153 = .ok (.iload_n 1, 1) := by decide +kernel
theorem dX11_readClause_154 : decode cX11_readClause 154 = .ok (.bipush 6, 2) := by decide +kernel
theorem dX11_readClause_156 : decode cX11_readClause 156 = .ok (.if_icmp .ne 7, 3) := by decide +kernel
theorem dX11_readClause_159 : decode cX11_readClause 159 = .ok (.aload_n 0, 1) := by decide +kernel
theorem dX11_readClause_160 : decode cX11_readClause 160 = .ok (.invokevirtual 237, 3) := by decide +kernel
theorem dX11_readClause_163 : decode cX11_readClause 163 = .ok (.iload_n 1, 1) := by decide +kernel
theorem dX11_readClause_164 : decode cX11_readClause 164 = .ok (.bipush 7, 2) := by decide +kernel
theorem dX11_readClause_166 : decode cX11_readClause 166 = .ok (.if_icmp .ge 4, 3) := by decide +kernel
theorem dX11_readClause_169 : decode cX11_readClause 169 = .ok (.return_, 1) := by decide +kernel
theorem dX11_readClause_170 : decode cX11_readClause 170 = .ok (.aload_n 0, 1) := by decide +kernel
theorem dX11_readClause_171 : decode cX11_readClause 171 = .ok (.iload_n 1, 1) := by decide +kernel
theorem dX11_readClause_172 : decode cX11_readClause 172 = .ok (.bipush 8, 2) := by decide +kernel
theorem dX11_readClause_174 : decode cX11_readClause 174 = .ok (.if_icmp .ne 7, 3) := by decide +kernel
theorem dX11_readClause_177 : decode cX11_readClause 177 = .ok (.iconst 1, 1) := by decide +kernel
theorem dX11_readClause_178 : decode cX11_readClause 178 = .ok (.goto 4, 3) := by decide +kernel
theorem dX11_readClause_181 : decode cX11_readClause 181 = .ok (.iconst 0, 1) := by decide +kernel
theorem dX11_readClause_182 : decode cX11_readClause 182 = .ok (.putfield 196, 3) := by decide +kernel
theorem dX11_readClause_185 : decode cX11_readClause 185 = .ok (.aload_n 0, 1) := by decide +kernel
theorem dX11_readClause_186 : decode cX11_readClause 186 = .ok (.iconst 0, 1) := by decide +kernel
theorem dX11_readClause_187 : decode cX11_readClause 187 = .ok (.invokevirtual 213, 3) := by decide +kernel
theorem dX11_readClause_190 : decode cX11_readClause 190 = .ok (.return_, 1) := by decide +kernel
theorem dX11_readLine_0 : decode cX11_readLine 0 = .ok (.aload_n 0, 1) := by decide +kernel
theorem dX11_readLine_1 : decode cX11_readLine 1 = .ok (.aload_n 0, 1) := by decide +kernel
theorem dX11_readLine_2 : decode cX11_readLine 2 = .ok (.getfield 41, 3) := by decide +kernel
theorem dX11_readLine_5 : decode cX11_readLine 5 = .ok (.invokevirtual 206, 3) := by decide +kernel
theorem dX11_readLine_8 : decode cX11_readLine 8 = .ok (.istore_n 2, 1) := by decide +kernel
theorem dX11_readLine_9 : decode cX11_readLine 9 = .ok (.iload_n 2, 1) := by decide +kernel
theorem dX11_readLine_10 : decode cX11_readLine 10 = .ok (.iconst (-1), 1) := by decide +kernel
theorem dX11_readLine_11 : decode cX11_readLine 11 = .ok (.if_icmp .ne 11, 3) := by decide +kernel
theorem dX11_readLine_14 : decode cX11_readLine 14 = .ok (.aload_n 0, 1) := by decide +kernel
theorem dX11_readLine_15 : decode cX11_readLine 15 = .ok (.iconst 1, 1) := by decide +kernel
theorem dX11_readLine_16 : decode cX11_readLine 16 = .ok (.invokevirtual 189, 3) := by decide +kernel
theorem dX11_readLine_19 : decode cX11_readLine 19 = .ok (.goto 16, 3) := by decide +kernel
theorem dX11_readLine_22 : decode cX11_readLine 22 = .ok (.iload_n 1, 1) := by decide +kernel
theorem dX11_readLine_23 : decode cX11_readLine 23 = .ok (.iload_n 2, 1) := by decide +kernel
theorem dX11_readLine_24 : decode cX11_readLine 24 = .ok (.invokestatic 240, 3) := by decide +kernel
theorem dX11_readLine_27 : decode cX11_readLine 27 = .ok (.ifCond .eq 8, 3) := by decide +kernel
theorem dX11_readLine_30 : decode cX11_readLine 30 = .ok (.aload_n 0, 1) := by decide +kernel
theorem dX11_readLine_31 : decode cX11_readLine 31 = .ok (.iconst 5, 1) := by decide +kernel
theorem dX11_readLine_32 : decode cX11_readLine 32 = .ok (.invokevirtual 189, 3) := by decide +kernel
theorem dX11_readLine_35 : decode cX11_readLine 35 = .ok (.aload_n 0, 1) := by decide +kernel
theorem dX11_readLine_36 : decode cX11_readLine 36 = .ok (.getfield 168, 3) := by decide +kernel
theorem dX11_readLine_39 : decode cX11_readLine 39 = .ok (.ifCond .eq 5, 3) := by decide +kernel
theorem dX11_readLine_42 : decode cX11_readLine 42 = .ok (.iload_n 1, 1) := by decide +kernel
theorem dX11_readLine_43 : decode cX11_readLine 43 = .ok (.ireturn, 1) := by decide +kernel
theorem dX11_readLine_44 : decode cX11_readLine 44 = .ok (.aload_n 0, 1) := by decide +kernel
theorem dX11_readLine_45 : decode cX11_readLine 45 = .ok (.invokevirtual 193, 3) := by decide +kernel
theorem dX11_readLine_48 : decode cX11_readLine 48 = .ok (.aload_n 0, 1) := by decide +kernel
theorem dX11_readLine_49 : decode cX11_readLine 49 = .ok (.iload_n 2, 1) := by decide +kernel
theorem dX11_readLine_50 : decode cX11_readLine 50 = .ok (.invokevirtual 244, 3) := by decide +kernel
theorem dX11_readLine_53 : decode cX11_readLine 53 = .ok (.aload_n 0, 1) := by decide +kernel
theorem dX11_readLine_54 : decode cX11_readLine 54 = .ok (.bipush 59, 2) := by decide +kernel
theorem dX11_readLine_56 : decode cX11_readLine 56 = .ok (.invokevirtual 210, 3) := by decide +kernel
theorem dX11_readLine_59 : decode cX11_readLine 59 = .ok (.iload_n 1, 1) := by decide +kernel
theorem dX11_readLine_60 : decode cX11_readLine 60 = .ok (.iconst 1, 1) := by decide +kernel
theorem dX11_readLine_61 : decode cX11_readLine 61 = .ok (.iload_n 2, 1) := by decide +kernel
theorem dX11_readLine_62 : decode cX11_readLine 62 = .ok (.ishl, 1) := by decide +kernel
theorem dX11_readLine_63 : decode cX11_readLine 63 = .ok (.ior, 1) := by decide +kernel
theorem dX11_readLine_64 : decode cX11_readLine 64 = .ok (.ireturn, 1) := by decide +kernel
theorem dX11_beginTold_0 : decode cX11_beginTold 0 = .ok (.aload_n 0, 1) := by decide +kernel
theorem dX11_beginTold_1 : decode cX11_beginTold 1 = .ok (.getfield 44, 3) := by decide +kernel
theorem dX11_beginTold_4 : decode cX11_beginTold 4 = .ok (.bipush 10, 2) := by decide +kernel
theorem dX11_beginTold_6 : decode cX11_beginTold 6 = .ok (.iconst 4, 1) := by decide +kernel
theorem dX11_beginTold_7 : decode cX11_beginTold 7 = .ok (.iastore, 1) := by decide +kernel
theorem dX11_beginTold_8 : decode cX11_beginTold 8 = .ok (.aload_n 0, 1) := by decide +kernel
theorem dX11_beginTold_9 : decode cX11_beginTold 9 = .ok (.getfield 44, 3) := by decide +kernel
theorem dX11_beginTold_12 : decode cX11_beginTold 12 = .ok (.bipush 11, 2) := by decide +kernel
theorem dX11_beginTold_14 : decode cX11_beginTold 14 = .ok (.bipush 12, 2) := by decide +kernel
theorem dX11_beginTold_16 : decode cX11_beginTold 16 = .ok (.iastore, 1) := by decide +kernel
theorem dX11_beginTold_17 : decode cX11_beginTold 17 = .ok (.aload_n 0, 1) := by decide +kernel
theorem dX11_beginTold_18 : decode cX11_beginTold 18 = .ok (.getfield 44, 3) := by decide +kernel
theorem dX11_beginTold_21 : decode cX11_beginTold 21 = .ok (.bipush 12, 2) := by decide +kernel
theorem dX11_beginTold_23 : decode cX11_beginTold 23 = .ok (.iconst 4, 1) := by decide +kernel
theorem dX11_beginTold_24 : decode cX11_beginTold 24 = .ok (.iastore, 1) := by decide +kernel
theorem dX11_beginTold_25 : decode cX11_beginTold 25 = .ok (.aload_n 0, 1) := by decide +kernel
theorem dX11_beginTold_26 : decode cX11_beginTold 26 = .ok (.getfield 44, 3) := by decide +kernel
theorem dX11_beginTold_29 : decode cX11_beginTold 29 = .ok (.bipush 13, 2) := by decide +kernel
theorem dX11_beginTold_31 : decode cX11_beginTold 31 = .ok (.iconst 1, 1) := by decide +kernel
theorem dX11_beginTold_32 : decode cX11_beginTold 32 = .ok (.iastore, 1) := by decide +kernel
theorem dX11_beginTold_33 : decode cX11_beginTold 33 = .ok (.aload_n 0, 1) := by decide +kernel
theorem dX11_beginTold_34 : decode cX11_beginTold 34 = .ok (.getfield 44, 3) := by decide +kernel
theorem dX11_beginTold_37 : decode cX11_beginTold 37 = .ok (.bipush 14, 2) := by decide +kernel
theorem dX11_beginTold_39 : decode cX11_beginTold 39 = .ok (.bipush 8, 2) := by decide +kernel
theorem dX11_beginTold_41 : decode cX11_beginTold 41 = .ok (.iastore, 1) := by decide +kernel
theorem dX11_beginTold_42 : decode cX11_beginTold 42 = .ok (.aload_n 0, 1) := by decide +kernel
theorem dX11_beginTold_43 : decode cX11_beginTold 43 = .ok (.getfield 44, 3) := by decide +kernel
theorem dX11_beginTold_46 : decode cX11_beginTold 46 = .ok (.bipush 15, 2) := by decide +kernel
theorem dX11_beginTold_48 : decode cX11_beginTold 48 = .ok (.iconst 0, 1) := by decide +kernel
theorem dX11_beginTold_49 : decode cX11_beginTold 49 = .ok (.iastore, 1) := by decide +kernel
theorem dX11_beginTold_50 : decode cX11_beginTold 50 = .ok (.aload_n 0, 1) := by decide +kernel
theorem dX11_beginTold_51 : decode cX11_beginTold 51 = .ok (.getfield 44, 3) := by decide +kernel
theorem dX11_beginTold_54 : decode cX11_beginTold 54 = .ok (.bipush 16, 2) := by decide +kernel
theorem dX11_beginTold_56 : decode cX11_beginTold 56 = .ok (.iconst 1, 1) := by decide +kernel
theorem dX11_beginTold_57 : decode cX11_beginTold 57 = .ok (.iastore, 1) := by decide +kernel
theorem dX11_beginTold_58 : decode cX11_beginTold 58 = .ok (.aload_n 0, 1) := by decide +kernel
theorem dX11_beginTold_59 : decode cX11_beginTold 59 = .ok (.getfield 44, 3) := by decide +kernel
theorem dX11_beginTold_62 : decode cX11_beginTold 62 = .ok (.bipush 17, 2) := by decide +kernel
theorem dX11_beginTold_64 : decode cX11_beginTold 64 = .ok (.iconst 1, 1) := by decide +kernel
theorem dX11_beginTold_65 : decode cX11_beginTold 65 = .ok (.iastore, 1) := by decide +kernel
theorem dX11_beginTold_66 : decode cX11_beginTold 66 = .ok (.aload_n 0, 1) := by decide +kernel
theorem dX11_beginTold_67 : decode cX11_beginTold 67 = .ok (.getfield 44, 3) := by decide +kernel
theorem dX11_beginTold_70 : decode cX11_beginTold 70 = .ok (.bipush 18, 2) := by decide +kernel
theorem dX11_beginTold_72 : decode cX11_beginTold 72 = .ok (.iconst 0, 1) := by decide +kernel
theorem dX11_beginTold_73 : decode cX11_beginTold 73 = .ok (.iastore, 1) := by decide +kernel
theorem dX11_beginTold_74 : decode cX11_beginTold 74 = .ok (.aload_n 0, 1) := by decide +kernel
theorem dX11_beginTold_75 : decode cX11_beginTold 75 = .ok (.getfield 44, 3) := by decide +kernel
theorem dX11_beginTold_78 : decode cX11_beginTold 78 = .ok (.bipush 19, 2) := by decide +kernel
theorem dX11_beginTold_80 : decode cX11_beginTold 80 = .ok (.iconst 0, 1) := by decide +kernel
theorem dX11_beginTold_81 : decode cX11_beginTold 81 = .ok (.iastore, 1) := by decide +kernel
theorem dX11_beginTold_82 : decode cX11_beginTold 82 = .ok (.aload_n 0, 1) := by decide +kernel
theorem dX11_beginTold_83 : decode cX11_beginTold 83 = .ok (.getfield 48, 3) := by decide +kernel
theorem dX11_beginTold_86 : decode cX11_beginTold 86 = .ok (.bipush 16, 2) := by decide +kernel
theorem dX11_beginTold_88 : decode cX11_beginTold 88 = .ok (.bipush 85, 2) := by decide +kernel
theorem dX11_beginTold_90 : decode cX11_beginTold 90 = .ok (.iastore, 1) := by decide +kernel
theorem dX11_beginTold_91 : decode cX11_beginTold 91 = .ok (.return_, 1) := by decide +kernel
theorem dX11_line_0 : decode cX11_line 0 = .ok (.aload_n 0, 1) := by decide +kernel
theorem dX11_line_1 : decode cX11_line 1 = .ok (.invokevirtual 247, 3) := by decide +kernel
theorem dX11_line_4 : decode cX11_line 4 = .ok (.iload_n 1, 1) := by decide +kernel
theorem dX11_line_5 : decode cX11_line 5 = .ok (.ifCond .lt 11, 3) := by decide +kernel
theorem dX11_line_8 : decode cX11_line 8 = .ok (.iload_n 1, 1) := by decide +kernel
theorem dX11_line_9 : decode cX11_line 9 = .ok (.aload_n 0, 1) := by decide +kernel
theorem dX11_line_10 : decode cX11_line 10 = .ok (.getfield 133, 3) := by decide +kernel
theorem dX11_line_13 : decode cX11_line 13 = .ok (.if_icmp .le 9, 3) := by decide +kernel
theorem dX11_line_16 : decode cX11_line 16 = .ok (.aload_n 0, 1) := by decide +kernel
theorem dX11_line_17 : decode cX11_line 17 = .ok (.iconst 1, 1) := by decide +kernel
theorem dX11_line_18 : decode cX11_line 18 = .ok (.invokevirtual 250, 3) := by decide +kernel
theorem dX11_line_21 : decode cX11_line 21 = .ok (.ireturn, 1) := by decide +kernel
theorem dX11_line_22 : decode cX11_line 22 = .ok (.aload_n 0, 1) := by decide +kernel
theorem dX11_line_23 : decode cX11_line 23 = .ok (.iconst 0, 1) := by decide +kernel
theorem dX11_line_24 : decode cX11_line 24 = .ok (.putfield 133, 3) := by decide +kernel
theorem dX11_line_27 : decode cX11_line 27 = .ok (.aload_n 0, 1) := by decide +kernel
theorem dX11_line_28 : decode cX11_line 28 = .ok (.iload_n 1, 1) := by decide +kernel
theorem dX11_line_29 : decode cX11_line 29 = .ok (.putfield 136, 3) := by decide +kernel
theorem dX11_line_32 : decode cX11_line 32 = .ok (.aload_n 0, 1) := by decide +kernel
theorem dX11_line_33 : decode cX11_line 33 = .ok (.iconst 0, 1) := by decide +kernel
theorem dX11_line_34 : decode cX11_line 34 = .ok (.putfield 138, 3) := by decide +kernel
theorem dX11_line_37 : decode cX11_line 37 = .ok (.aload_n 0, 1) := by decide +kernel
theorem dX11_line_38 : decode cX11_line 38 = .ok (.iconst 0, 1) := by decide +kernel
theorem dX11_line_39 : decode cX11_line 39 = .ok (.putfield 168, 3) := by decide +kernel
theorem dX11_line_42 : decode cX11_line 42 = .ok (.aload_n 0, 1) := by decide +kernel
theorem dX11_line_43 : decode cX11_line 43 = .ok (.iconst (-1), 1) := by decide +kernel
theorem dX11_line_44 : decode cX11_line 44 = .ok (.putfield 65, 3) := by decide +kernel
theorem dX11_line_47 : decode cX11_line 47 = .ok (.aload_n 0, 1) := by decide +kernel
theorem dX11_line_48 : decode cX11_line 48 = .ok (.invokevirtual 253, 3) := by decide +kernel
theorem dX11_line_51 : decode cX11_line 51 = .ok (.aload_n 0, 1) := by decide +kernel
theorem dX11_line_52 : decode cX11_line 52 = .ok (.invokevirtual 193, 3) := by decide +kernel
theorem dX11_line_55 : decode cX11_line 55 = .ok (.iconst 0, 1) := by decide +kernel
theorem dX11_line_56 : decode cX11_line 56 = .ok (.istore_n 2, 1) := by decide +kernel
theorem dX11_line_57 : decode cX11_line 57 = .ok (.aload_n 0, 1) := by decide +kernel
theorem dX11_line_58 : decode cX11_line 58 = .ok (.getfield 168, 3) := by decide +kernel
theorem dX11_line_61 : decode cX11_line 61 = .ok (.ifCond .ne 19, 3) := by decide +kernel
theorem dX11_line_64 : decode cX11_line 64 = .ok (.aload_n 0, 1) := by decide +kernel
theorem dX11_line_65 : decode cX11_line 65 = .ok (.getfield 148, 3) := by decide +kernel
theorem dX11_line_68 : decode cX11_line 68 = .ok (.ifCond .eq 12, 3) := by decide +kernel
theorem dX11_line_71 : decode cX11_line 71 = .ok (.aload_n 0, 1) := by decide +kernel
theorem dX11_line_72 : decode cX11_line 72 = .ok (.iload_n 2, 1) := by decide +kernel
theorem dX11_line_73 : decode cX11_line 73 = .ok (.invokevirtual 256, 3) := by decide +kernel
theorem dX11_line_76 : decode cX11_line 76 = .ok (.istore_n 2, 1) := by decide +kernel
theorem dX11_line_77 : decode cX11_line 77 = .ok (.goto (-20), 3) := by decide +kernel
theorem dX11_line_80 : decode cX11_line 80 = .ok (.aload_n 0, 1) := by decide +kernel
theorem dX11_line_81 : decode cX11_line 81 = .ok (.getfield 168, 3) := by decide +kernel
theorem dX11_line_84 : decode cX11_line 84 = .ok (.ifCond .eq 26, 3) := by decide +kernel
theorem dX11_line_87 : decode cX11_line 87 = .ok (.aload_n 0, 1) := by decide +kernel
theorem dX11_line_88 : decode cX11_line 88 = .ok (.aload_n 0, 1) := by decide +kernel
theorem dX11_line_89 : decode cX11_line 89 = .ok (.getfield 171, 3) := by decide +kernel
theorem dX11_line_92 : decode cX11_line 92 = .ok (.putfield 65, 3) := by decide +kernel
theorem dX11_line_95 : decode cX11_line 95 = .ok (.aload_n 0, 1) := by decide +kernel
theorem dX11_line_96 : decode cX11_line 96 = .ok (.getfield 56, 3) := by decide +kernel
theorem dX11_line_99 : decode cX11_line 99 = .ok (.iconst 0, 1) := by decide +kernel
theorem dX11_line_100 : decode cX11_line 100 = .ok (.dup2, 1) := by decide +kernel
theorem dX11_line_101 : decode cX11_line 101 = .ok (.iaload, 1) := by decide +kernel
theorem dX11_line_102 : decode cX11_line 102 = .ok (.iconst 1, 1) := by decide +kernel
theorem dX11_line_103 : decode cX11_line 103 = .ok (.iadd, 1) := by decide +kernel
theorem dX11_line_104 : decode cX11_line 104 = .ok (.iastore, 1) := by decide +kernel
theorem dX11_line_105 : decode cX11_line 105 = .ok (.aload_n 0, 1) := by decide +kernel
theorem dX11_line_106 : decode cX11_line 106 = .ok (.getfield 168, 3) := by decide +kernel
theorem dX11_line_109 : decode cX11_line 109 = .ok (.ireturn, 1) := by decide +kernel
theorem dX11_line_110 : decode cX11_line 110 = .ok (.aload_n 0, 1) := by decide +kernel
theorem dX11_line_111 : decode cX11_line 111 = .ok (.invokevirtual 259, 3) := by decide +kernel
theorem dX11_line_114 : decode cX11_line 114 = .ok (.iconst 0, 1) := by decide +kernel
theorem dX11_line_115 : decode cX11_line 115 = .ok (.ireturn, 1) := by decide +kernel
theorem dX11_takeHalf_0 : decode cX11_takeHalf 0 = .ok (.iconst 0, 1) := by decide +kernel
theorem dX11_takeHalf_1 : decode cX11_takeHalf 1 = .ok (.istore_n 1, 1) := by decide +kernel
theorem dX11_takeHalf_2 : decode cX11_takeHalf 2 = .ok (.iload_n 1, 1) := by decide +kernel
theorem dX11_takeHalf_3 : decode cX11_takeHalf 3 = .ok (.aload_n 0, 1) := by decide +kernel
theorem dX11_takeHalf_4 : decode cX11_takeHalf 4 = .ok (.arraylength, 1) := by decide +kernel
theorem dX11_takeHalf_5 : decode cX11_takeHalf 5 = .ok (.iconst 2, 1) := by decide +kernel
theorem dX11_takeHalf_6 : decode cX11_takeHalf 6 = .ok (.idiv, 1) := by decide +kernel
theorem dX11_takeHalf_7 : decode cX11_takeHalf 7 = .ok (.if_icmp .ge 20, 3) := by decide +kernel
theorem dX11_takeHalf_10 : decode cX11_takeHalf 10 = .ok (.aload_n 0, 1) := by decide +kernel
theorem dX11_takeHalf_11 : decode cX11_takeHalf 11 = .ok (.iload_n 1, 1) := by decide +kernel
theorem dX11_takeHalf_12 : decode cX11_takeHalf 12 = .ok (.aload_n 0, 1) := by decide +kernel
theorem dX11_takeHalf_13 : decode cX11_takeHalf 13 = .ok (.aload_n 0, 1) := by decide +kernel
theorem dX11_takeHalf_14 : decode cX11_takeHalf 14 = .ok (.arraylength, 1) := by decide +kernel
theorem dX11_takeHalf_15 : decode cX11_takeHalf 15 = .ok (.iconst 2, 1) := by decide +kernel
theorem dX11_takeHalf_16 : decode cX11_takeHalf 16 = .ok (.idiv, 1) := by decide +kernel
theorem dX11_takeHalf_17 : decode cX11_takeHalf 17 = .ok (.iload_n 1, 1) := by decide +kernel
theorem dX11_takeHalf_18 : decode cX11_takeHalf 18 = .ok (.iadd, 1) := by decide +kernel
theorem dX11_takeHalf_19 : decode cX11_takeHalf 19 = .ok (.iaload, 1) := by decide +kernel
theorem dX11_takeHalf_20 : decode cX11_takeHalf 20 = .ok (.iastore, 1) := by decide +kernel
theorem dX11_takeHalf_21 : decode cX11_takeHalf 21 = .ok (.iinc 1 1, 3) := by decide +kernel
theorem dX11_takeHalf_24 : decode cX11_takeHalf 24 = .ok (.goto (-22), 3) := by decide +kernel
theorem dX11_takeHalf_27 : decode cX11_takeHalf 27 = .ok (.return_, 1) := by decide +kernel
theorem dX11_takeOver_0 : decode cX11_takeOver 0 = .ok (.aload_n 0, 1) := by decide +kernel
theorem dX11_takeOver_1 : decode cX11_takeOver 1 = .ok (.getfield 44, 3) := by decide +kernel
theorem dX11_takeOver_4 : decode cX11_takeOver 4 = .ok (.invokestatic 262, 3) := by decide +kernel
theorem dX11_takeOver_7 : decode cX11_takeOver 7 = .ok (.aload_n 0, 1) := by decide +kernel
theorem dX11_takeOver_8 : decode cX11_takeOver 8 = .ok (.getfield 48, 3) := by decide +kernel
theorem dX11_takeOver_11 : decode cX11_takeOver 11 = .ok (.invokestatic 262, 3) := by decide +kernel
theorem dX11_takeOver_14 : decode cX11_takeOver 14 = .ok (.aload_n 0, 1) := by decide +kernel
theorem dX11_takeOver_15 : decode cX11_takeOver 15 = .ok (.getfield 50, 3) := by decide +kernel
theorem dX11_takeOver_18 : decode cX11_takeOver 18 = .ok (.invokestatic 262, 3) := by decide +kernel
theorem dX11_takeOver_21 : decode cX11_takeOver 21 = .ok (.aload_n 0, 1) := by decide +kernel
theorem dX11_takeOver_22 : decode cX11_takeOver 22 = .ok (.getfield 53, 3) := by decide +kernel
theorem dX11_takeOver_25 : decode cX11_takeOver 25 = .ok (.invokestatic 262, 3) := by decide +kernel
theorem dX11_takeOver_28 : decode cX11_takeOver 28 = .ok (.aload_n 0, 1) := by decide +kernel
theorem dX11_takeOver_29 : decode cX11_takeOver 29 = .ok (.aload_n 0, 1) := by decide +kernel
theorem dX11_takeOver_30 : decode cX11_takeOver 30 = .ok (.getfield 44, 3) := by decide +kernel
theorem dX11_takeOver_33 : decode cX11_takeOver 33 = .ok (.iconst 2, 1) := by decide +kernel
theorem dX11_takeOver_34 : decode cX11_takeOver 34 = .ok (.iaload, 1) := by decide +kernel
theorem dX11_takeOver_35 : decode cX11_takeOver 35 = .ok (.putfield 266, 3) := by decide +kernel
theorem dX11_takeOver_38 : decode cX11_takeOver 38 = .ok (.aload_n 0, 1) := by decide +kernel
theorem dX11_takeOver_39 : decode cX11_takeOver 39 = .ok (.aload_n 0, 1) := by decide +kernel
theorem dX11_takeOver_40 : decode cX11_takeOver 40 = .ok (.getfield 44, 3) := by decide +kernel
theorem dX11_takeOver_43 : decode cX11_takeOver 43 = .ok (.iconst 3, 1) := by decide +kernel
theorem dX11_takeOver_44 : decode cX11_takeOver 44 = .ok (.iaload, 1) := by decide +kernel
theorem dX11_takeOver_45 : decode cX11_takeOver 45 = .ok (.putfield 269, 3) := by decide +kernel
theorem dX11_takeOver_48 : decode cX11_takeOver 48 = .ok (.aload_n 0, 1) := by decide +kernel
theorem dX11_takeOver_49 : decode cX11_takeOver 49 = .ok (.invokevirtual 272, 3) := by decide +kernel
theorem dX11_takeOver_52 : decode cX11_takeOver 52 = .ok (.iconst 0, 1) := by decide +kernel
theorem dX11_takeOver_53 : decode cX11_takeOver 53 = .ok (.istore_n 1, 1) := by decide +kernel
theorem dX11_takeOver_54 : decode cX11_takeOver 54 = .ok (.iload_n 1, 1) := by decide +kernel
theorem dX11_takeOver_55 : decode cX11_takeOver 55 = .ok (.sipush 665, 3) := by decide +kernel
theorem dX11_takeOver_58 : decode cX11_takeOver 58 = .ok (.if_icmp .ge 16, 3) := by decide +kernel
theorem dX11_takeOver_61 : decode cX11_takeOver 61 = .ok (.aload_n 0, 1) := by decide +kernel
theorem dX11_takeOver_62 : decode cX11_takeOver 62 = .ok (.getfield 59, 3) := by decide +kernel
theorem dX11_takeOver_65 : decode cX11_takeOver 65 = .ok (.iload_n 1, 1) := by decide +kernel
theorem dX11_takeOver_66 : decode cX11_takeOver 66 = .ok (.iconst 0, 1) := by decide +kernel
theorem dX11_takeOver_67 : decode cX11_takeOver 67 = .ok (.iastore, 1) := by decide +kernel
theorem dX11_takeOver_68 : decode cX11_takeOver 68 = .ok (.iinc 1 1, 3) := by decide +kernel
theorem dX11_takeOver_71 : decode cX11_takeOver 71 = .ok (.goto (-17), 3) := by decide +kernel
theorem dX11_takeOver_74 : decode cX11_takeOver 74 = .ok (.aload_n 0, 1) := by decide +kernel
theorem dX11_takeOver_75 : decode cX11_takeOver 75 = .ok (.invokevirtual 275, 3) := by decide +kernel
theorem dX11_takeOver_78 : decode cX11_takeOver 78 = .ok (.aload_n 0, 1) := by decide +kernel
theorem dX11_takeOver_79 : decode cX11_takeOver 79 = .ok (.getfield 59, 3) := by decide +kernel
theorem dX11_takeOver_82 : decode cX11_takeOver 82 = .ok (.bipush 29, 2) := by decide +kernel
theorem dX11_takeOver_84 : decode cX11_takeOver 84 = .ok (.aload_n 0, 1) := by decide +kernel
theorem dX11_takeOver_85 : decode cX11_takeOver 85 = .ok (.getfield 44, 3) := by decide +kernel
theorem dX11_takeOver_88 : decode cX11_takeOver 88 = .ok (.iconst 1, 1) := by decide +kernel
theorem dX11_takeOver_89 : decode cX11_takeOver 89 = .ok (.iaload, 1) := by decide +kernel
theorem dX11_takeOver_90 : decode cX11_takeOver 90 = .ok (.iastore, 1) := by decide +kernel
theorem dX11_takeOver_91 : decode cX11_takeOver 91 = .ok (.aload_n 0, 1) := by decide +kernel
theorem dX11_takeOver_92 : decode cX11_takeOver 92 = .ok (.getfield 59, 3) := by decide +kernel
theorem dX11_takeOver_95 : decode cX11_takeOver 95 = .ok (.bipush 27, 2) := by decide +kernel
theorem dX11_takeOver_97 : decode cX11_takeOver 97 = .ok (.aload_n 0, 1) := by decide +kernel
theorem dX11_takeOver_98 : decode cX11_takeOver 98 = .ok (.getfield 44, 3) := by decide +kernel
theorem dX11_takeOver_101 : decode cX11_takeOver 101 = .ok (.iconst 5, 1) := by decide +kernel
theorem dX11_takeOver_102 : decode cX11_takeOver 102 = .ok (.iaload, 1) := by decide +kernel
theorem dX11_takeOver_103 : decode cX11_takeOver 103 = .ok (.iastore, 1) := by decide +kernel
theorem dX11_takeOver_104 : decode cX11_takeOver 104 = .ok (.aload_n 0, 1) := by decide +kernel
theorem dX11_takeOver_105 : decode cX11_takeOver 105 = .ok (.iconst 0, 1) := by decide +kernel
theorem dX11_takeOver_106 : decode cX11_takeOver 106 = .ok (.putfield 278, 3) := by decide +kernel
theorem dX11_takeOver_109 : decode cX11_takeOver 109 = .ok (.aload_n 0, 1) := by decide +kernel
theorem dX11_takeOver_110 : decode cX11_takeOver 110 = .ok (.iconst 0, 1) := by decide +kernel
theorem dX11_takeOver_111 : decode cX11_takeOver 111 = .ok (.putfield 281, 3) := by decide +kernel
theorem dX11_takeOver_114 : decode cX11_takeOver 114 = .ok (.aload_n 0, 1) := by decide +kernel
theorem dX11_takeOver_115 : decode cX11_takeOver 115 = .ok (.iconst 0, 1) := by decide +kernel
theorem dX11_takeOver_116 : decode cX11_takeOver 116 = .ok (.putfield 284, 3) := by decide +kernel
theorem dX11_takeOver_119 : decode cX11_takeOver 119 = .ok (.return_, 1) := by decide +kernel
theorem dX11_ready_0 : decode cX11_ready 0 = .ok (.aload_n 0, 1) := by decide +kernel
theorem dX11_ready_1 : decode cX11_ready 1 = .ok (.iconst 0, 1) := by decide +kernel
theorem dX11_ready_2 : decode cX11_ready 2 = .ok (.putfield 121, 3) := by decide +kernel
theorem dX11_ready_5 : decode cX11_ready 5 = .ok (.aload_n 0, 1) := by decide +kernel
theorem dX11_ready_6 : decode cX11_ready 6 = .ok (.getfield 287, 3) := by decide +kernel
theorem dX11_ready_9 : decode cX11_ready 9 = .ok (.ifCond .eq 4, 3) := by decide +kernel
theorem dX11_ready_12 : decode cX11_ready 12 = .ok (.return_, 1) := by decide +kernel
theorem dX11_ready_13 : decode cX11_ready 13 = .ok (.aload_n 0, 1) := by decide +kernel
theorem dX11_ready_14 : decode cX11_ready 14 = .ok (.iconst 1, 1) := by decide +kernel
theorem dX11_ready_15 : decode cX11_ready 15 = .ok (.putfield 287, 3) := by decide +kernel
theorem dX11_ready_18 : decode cX11_ready 18 = .ok (.aload_n 0, 1) := by decide +kernel
theorem dX11_ready_19 : decode cX11_ready 19 = .ok (.invokevirtual 253, 3) := by decide +kernel
theorem dX11_ready_22 : decode cX11_ready 22 = .ok (.aload_n 0, 1) := by decide +kernel
theorem dX11_ready_23 : decode cX11_ready 23 = .ok (.invokevirtual 259, 3) := by decide +kernel
theorem dX11_ready_26 : decode cX11_ready 26 = .ok (.return_, 1) := by decide +kernel
theorem dX11_fault_0 : decode cX11_fault 0 = .ok (.aload_n 0, 1) := by decide +kernel
theorem dX11_fault_1 : decode cX11_fault 1 = .ok (.invokevirtual 247, 3) := by decide +kernel
theorem dX11_fault_4 : decode cX11_fault 4 = .ok (.aload_n 0, 1) := by decide +kernel
theorem dX11_fault_5 : decode cX11_fault 5 = .ok (.getfield 65, 3) := by decide +kernel
theorem dX11_fault_8 : decode cX11_fault 8 = .ok (.ireturn, 1) := by decide +kernel
theorem dX11_reckon_0 : decode cX11_reckon 0 = .ok (.iload_n 0, 1) := by decide +kernel
theorem dX11_reckon_1 : decode cX11_reckon 1 = .ok (.tableswitch 103 (-26) (-20) #[89, 78, 67, 55, 51, 47, 43], 43) := by decide +kernel
theorem dX11_reckon_44 : decode cX11_reckon 44 = .ok (.iload_n 1, 1) := by decide +kernel
theorem dX11_reckon_45 : decode cX11_reckon 45 = .ok (.iload_n 2, 1) := by decide +kernel
theorem dX11_reckon_46 : decode cX11_reckon 46 = .ok (.iadd, 1) := by decide +kernel
theorem dX11_reckon_47 : decode cX11_reckon 47 = .ok (.ireturn, 1) := by decide +kernel
theorem dX11_reckon_48 : decode cX11_reckon 48 = .ok (.iload_n 1, 1) := by decide +kernel
theorem dX11_reckon_49 : decode cX11_reckon 49 = .ok (.iload_n 2, 1) := by decide +kernel
theorem dX11_reckon_50 : decode cX11_reckon 50 = .ok (.isub, 1) := by decide +kernel
theorem dX11_reckon_51 : decode cX11_reckon 51 = .ok (.ireturn, 1) := by decide +kernel
theorem dX11_reckon_52 : decode cX11_reckon 52 = .ok (.iload_n 1, 1) := by decide +kernel
theorem dX11_reckon_53 : decode cX11_reckon 53 = .ok (.iload_n 2, 1) := by decide +kernel
theorem dX11_reckon_54 : decode cX11_reckon 54 = .ok (.imul, 1) := by decide +kernel
theorem dX11_reckon_55 : decode cX11_reckon 55 = .ok (.ireturn, 1) := by decide +kernel
theorem dX11_reckon_56 : decode cX11_reckon 56 = .ok (.iload_n 2, 1) := by decide +kernel
theorem dX11_reckon_57 : decode cX11_reckon 57 = .ok (.ifCond .ne 7, 3) := by decide +kernel
theorem dX11_reckon_60 : decode cX11_reckon 60 = .ok (.iconst 0, 1) := by decide +kernel
theorem dX11_reckon_61 : decode cX11_reckon 61 = .ok (.goto 6, 3) := by decide +kernel
theorem dX11_reckon_64 : decode cX11_reckon 64 = .ok (.iload_n 1, 1) := by decide +kernel
theorem dX11_reckon_65 : decode cX11_reckon 65 = .ok (.iload_n 2, 1) := by decide +kernel
theorem dX11_reckon_66 : decode cX11_reckon 66 = .ok (.idiv, 1) := by decide +kernel
theorem dX11_reckon_67 : decode cX11_reckon 67 = .ok (.ireturn, 1) := by decide +kernel
theorem dX11_reckon_68 : decode cX11_reckon 68 = .ok (.iload_n 1, 1) := by decide +kernel
theorem dX11_reckon_69 : decode cX11_reckon 69 = .ok (.iload_n 2, 1) := by decide +kernel
theorem dX11_reckon_70 : decode cX11_reckon 70 = .ok (.if_icmp .ge 7, 3) := by decide +kernel
theorem dX11_reckon_73 : decode cX11_reckon 73 = .ok (.iconst 1, 1) := by decide +kernel
theorem dX11_reckon_74 : decode cX11_reckon 74 = .ok (.goto 4, 3) := by decide +kernel
theorem dX11_reckon_77 : decode cX11_reckon 77 = .ok (.iconst 0, 1) := by decide +kernel
theorem dX11_reckon_78 : decode cX11_reckon 78 = .ok (.ireturn, 1) := by decide +kernel
theorem dX11_reckon_79 : decode cX11_reckon 79 = .ok (.iload_n 1, 1) := by decide +kernel
theorem dX11_reckon_80 : decode cX11_reckon 80 = .ok (.iload_n 2, 1) := by decide +kernel
theorem dX11_reckon_81 : decode cX11_reckon 81 = .ok (.if_icmp .ne 7, 3) := by decide +kernel
theorem dX11_reckon_84 : decode cX11_reckon 84 = .ok (.iconst 1, 1) := by decide +kernel
theorem dX11_reckon_85 : decode cX11_reckon 85 = .ok (.goto 4, 3) := by decide +kernel
theorem dX11_reckon_88 : decode cX11_reckon 88 = .ok (.iconst 0, 1) := by decide +kernel
theorem dX11_reckon_89 : decode cX11_reckon 89 = .ok (.ireturn, 1) := by decide +kernel
theorem dX11_reckon_90 : decode cX11_reckon 90 = .ok (.iload_n 1, 1) := by decide +kernel
theorem dX11_reckon_91 : decode cX11_reckon 91 = .ok (.ifCond .eq 11, 3) := by decide +kernel
theorem dX11_reckon_94 : decode cX11_reckon 94 = .ok (.iload_n 2, 1) := by decide +kernel
theorem dX11_reckon_95 : decode cX11_reckon 95 = .ok (.ifCond .eq 7, 3) := by decide +kernel
theorem dX11_reckon_98 : decode cX11_reckon 98 = .ok (.iconst 1, 1) := by decide +kernel
theorem dX11_reckon_99 : decode cX11_reckon 99 = .ok (.goto 4, 3) := by decide +kernel
theorem dX11_reckon_102 : decode cX11_reckon 102 = .ok (.iconst 0, 1) := by decide +kernel
theorem dX11_reckon_103 : decode cX11_reckon 103 = .ok (.ireturn, 1) := by decide +kernel
theorem dX11_reckon_104 : decode cX11_reckon 104 = .ok (.iload_n 1, 1) := by decide +kernel
theorem dX11_reckon_105 : decode cX11_reckon 105 = .ok (.ifCond .ne 7, 3) := by decide +kernel
theorem dX11_reckon_108 : decode cX11_reckon 108 = .ok (.iload_n 2, 1) := by decide +kernel
theorem dX11_reckon_109 : decode cX11_reckon 109 = .ok (.ifCond .eq 7, 3) := by decide +kernel
theorem dX11_reckon_112 : decode cX11_reckon 112 = .ok (.iconst 1, 1) := by decide +kernel
theorem dX11_reckon_113 : decode cX11_reckon 113 = .ok (.goto 4, 3) := by decide +kernel
theorem dX11_reckon_116 : decode cX11_reckon 116 = .ok (.iconst 0, 1) := by decide +kernel
theorem dX11_reckon_117 : decode cX11_reckon 117 = .ok (.ireturn, 1) := by decide +kernel
theorem dX11_forgetGiven_0 : decode cX11_forgetGiven 0 = .ok (.iconst 0, 1) := by decide +kernel
theorem dX11_forgetGiven_1 : decode cX11_forgetGiven 1 = .ok (.istore_n 1, 1) := by decide +kernel
theorem dX11_forgetGiven_2 : decode cX11_forgetGiven 2 = .ok (.iload_n 1, 1) := by decide +kernel
theorem dX11_forgetGiven_3 : decode cX11_forgetGiven 3 = .ok (.sipush 2048, 3) := by decide +kernel
theorem dX11_forgetGiven_6 : decode cX11_forgetGiven 6 = .ok (.if_icmp .ge 16, 3) := by decide +kernel
theorem dX11_forgetGiven_9 : decode cX11_forgetGiven 9 = .ok (.aload_n 0, 1) := by decide +kernel
theorem dX11_forgetGiven_10 : decode cX11_forgetGiven 10 = .ok (.getfield 81, 3) := by decide +kernel
theorem dX11_forgetGiven_13 : decode cX11_forgetGiven 13 = .ok (.iload_n 1, 1) := by decide +kernel
theorem dX11_forgetGiven_14 : decode cX11_forgetGiven 14 = .ok (.iconst 0, 1) := by decide +kernel
theorem dX11_forgetGiven_15 : decode cX11_forgetGiven 15 = .ok (.bastore, 1) := by decide +kernel
theorem dX11_forgetGiven_16 : decode cX11_forgetGiven 16 = .ok (.iinc 1 1, 3) := by decide +kernel
theorem dX11_forgetGiven_19 : decode cX11_forgetGiven 19 = .ok (.goto (-17), 3) := by decide +kernel
theorem dX11_forgetGiven_22 : decode cX11_forgetGiven 22 = .ok (.return_, 1) := by decide +kernel
theorem dX11_ruleNow_0 : decode cX11_ruleNow 0 = .ok (.iconst 0, 1) := by decide +kernel
theorem dX11_ruleNow_1 : decode cX11_ruleNow 1 = .ok (.istore_n 2, 1) := by decide +kernel
theorem dX11_ruleNow_2 : decode cX11_ruleNow 2 = .ok (.iconst 0, 1) := by decide +kernel
theorem dX11_ruleNow_3 : decode cX11_ruleNow 3 = .ok (.istore_n 3, 1) := by decide +kernel
theorem dX11_ruleNow_4 : decode cX11_ruleNow 4 = .ok (.iload_n 3, 1) := by decide +kernel
theorem dX11_ruleNow_5 : decode cX11_ruleNow 5 = .ok (.iconst 4, 1) := by decide +kernel
theorem dX11_ruleNow_6 : decode cX11_ruleNow 6 = .ok (.if_icmp .ge 21, 3) := by decide +kernel
theorem dX11_ruleNow_9 : decode cX11_ruleNow 9 = .ok (.bipush 31, 2) := by decide +kernel
theorem dX11_ruleNow_11 : decode cX11_ruleNow 11 = .ok (.iload_n 2, 1) := by decide +kernel
theorem dX11_ruleNow_12 : decode cX11_ruleNow 12 = .ok (.imul, 1) := by decide +kernel
theorem dX11_ruleNow_13 : decode cX11_ruleNow 13 = .ok (.aload_n 0, 1) := by decide +kernel
theorem dX11_ruleNow_14 : decode cX11_ruleNow 14 = .ok (.getfield 69, 3) := by decide +kernel
theorem dX11_ruleNow_17 : decode cX11_ruleNow 17 = .ok (.iload_n 3, 1) := by decide +kernel
theorem dX11_ruleNow_18 : decode cX11_ruleNow 18 = .ok (.iaload, 1) := by decide +kernel
theorem dX11_ruleNow_19 : decode cX11_ruleNow 19 = .ok (.iadd, 1) := by decide +kernel
theorem dX11_ruleNow_20 : decode cX11_ruleNow 20 = .ok (.istore_n 2, 1) := by decide +kernel
theorem dX11_ruleNow_21 : decode cX11_ruleNow 21 = .ok (.iinc 3 1, 3) := by decide +kernel
theorem dX11_ruleNow_24 : decode cX11_ruleNow 24 = .ok (.goto (-20), 3) := by decide +kernel
theorem dX11_ruleNow_27 : decode cX11_ruleNow 27 = .ok (.iload_n 2, 1) := by decide +kernel
theorem dX11_ruleNow_28 : decode cX11_ruleNow 28 = .ok (.sipush 1023, 3) := by decide +kernel
theorem dX11_ruleNow_31 : decode cX11_ruleNow 31 = .ok (.iand, 1) := by decide +kernel
theorem dX11_ruleNow_32 : decode cX11_ruleNow 32 = .ok (.iload_n 1, 1) := by decide +kernel
theorem dX11_ruleNow_33 : decode cX11_ruleNow 33 = .ok (.ifCond .eq 9, 3) := by decide +kernel
theorem dX11_ruleNow_36 : decode cX11_ruleNow 36 = .ok (.sipush 1024, 3) := by decide +kernel
theorem dX11_ruleNow_39 : decode cX11_ruleNow 39 = .ok (.goto 4, 3) := by decide +kernel
theorem dX11_ruleNow_42 : decode cX11_ruleNow 42 = .ok (.iconst 0, 1) := by decide +kernel
theorem dX11_ruleNow_43 : decode cX11_ruleNow 43 = .ok (.iadd, 1) := by decide +kernel
theorem dX11_ruleNow_44 : decode cX11_ruleNow 44 = .ok (.istore_n 2, 1) := by decide +kernel
theorem dX11_ruleNow_45 : decode cX11_ruleNow 45 = .ok (.aload_n 0, 1) := by decide +kernel
theorem dX11_ruleNow_46 : decode cX11_ruleNow 46 = .ok (.getfield 81, 3) := by decide +kernel
theorem dX11_ruleNow_49 : decode cX11_ruleNow 49 = .ok (.iload_n 2, 1) := by decide +kernel
theorem dX11_ruleNow_50 : decode cX11_ruleNow 50 = .ok (.baload, 1) := by decide +kernel
theorem dX11_ruleNow_51 : decode cX11_ruleNow 51 = .ok (.istore_n 3, 1) := by decide +kernel
theorem dX11_ruleNow_52 : decode cX11_ruleNow 52 = .ok (.iconst 0, 1) := by decide +kernel
theorem dX11_ruleNow_53 : decode cX11_ruleNow 53 = .ok (.istore 4, 2) := by decide +kernel
theorem dX11_ruleNow_55 : decode cX11_ruleNow 55 = .ok (.iload_n 3, 1) := by decide +kernel
theorem dX11_ruleNow_56 : decode cX11_ruleNow 56 = .ok (.ifCond .eq 42, 3) := by decide +kernel
theorem dX11_ruleNow_59 : decode cX11_ruleNow 59 = .ok (.iload 4, 2) := by decide +kernel
theorem dX11_ruleNow_61 : decode cX11_ruleNow 61 = .ok (.iconst 4, 1) := by decide +kernel
theorem dX11_ruleNow_62 : decode cX11_ruleNow 62 = .ok (.if_icmp .ge 36, 3) := by decide +kernel
theorem dX11_ruleNow_65 : decode cX11_ruleNow 65 = .ok (.aload_n 0, 1) := by decide +kernel
theorem dX11_ruleNow_66 : decode cX11_ruleNow 66 = .ok (.getfield 75, 3) := by decide +kernel
theorem dX11_ruleNow_69 : decode cX11_ruleNow 69 = .ok (.iconst 4, 1) := by decide +kernel
theorem dX11_ruleNow_70 : decode cX11_ruleNow 70 = .ok (.iload_n 2, 1) := by decide +kernel
theorem dX11_ruleNow_71 : decode cX11_ruleNow 71 = .ok (.imul, 1) := by decide +kernel
theorem dX11_ruleNow_72 : decode cX11_ruleNow 72 = .ok (.iload 4, 2) := by decide +kernel
theorem dX11_ruleNow_74 : decode cX11_ruleNow 74 = .ok (.iadd, 1) := by decide +kernel
theorem dX11_ruleNow_75 : decode cX11_ruleNow 75 = .ok (.iaload, 1) := by decide +kernel
theorem dX11_ruleNow_76 : decode cX11_ruleNow 76 = .ok (.aload_n 0, 1) := by decide +kernel
theorem dX11_ruleNow_77 : decode cX11_ruleNow 77 = .ok (.getfield 69, 3) := by decide +kernel
theorem dX11_ruleNow_80 : decode cX11_ruleNow 80 = .ok (.iload 4, 2) := by decide +kernel
theorem dX11_ruleNow_82 : decode cX11_ruleNow 82 = .ok (.iaload, 1) := by decide +kernel
theorem dX11_ruleNow_83 : decode cX11_ruleNow 83 = .ok (.if_icmp .ne 7, 3) := by decide +kernel
theorem dX11_ruleNow_86 : decode cX11_ruleNow 86 = .ok (.iconst 1, 1) := by decide +kernel
theorem dX11_ruleNow_87 : decode cX11_ruleNow 87 = .ok (.goto 4, 3) := by decide +kernel
theorem dX11_ruleNow_90 : decode cX11_ruleNow 90 = .ok (.iconst 0, 1) := by decide +kernel
theorem dX11_ruleNow_91 : decode cX11_ruleNow 91 = .ok (.istore_n 3, 1) := by decide +kernel
theorem dX11_ruleNow_92 : decode cX11_ruleNow 92 = .ok (.iinc 4 1, 3) := by decide +kernel
theorem dX11_ruleNow_95 : decode cX11_ruleNow 95 = .ok (.goto (-40), 3) := by decide +kernel
theorem dX11_ruleNow_98 : decode cX11_ruleNow 98 = .ok (.iload_n 3, 1) := by decide +kernel
theorem dX11_ruleNow_99 : decode cX11_ruleNow 99 = .ok (.ifCond .eq 10, 3) := by decide +kernel
theorem dX11_ruleNow_102 : decode cX11_ruleNow 102 = .ok (.aload_n 0, 1) := by decide +kernel
theorem dX11_ruleNow_103 : decode cX11_ruleNow 103 = .ok (.getfield 78, 3) := by decide +kernel
theorem dX11_ruleNow_106 : decode cX11_ruleNow 106 = .ok (.iload_n 2, 1) := by decide +kernel
theorem dX11_ruleNow_107 : decode cX11_ruleNow 107 = .ok (.iaload, 1) := by decide +kernel
theorem dX11_ruleNow_108 : decode cX11_ruleNow 108 = .ok (.ireturn, 1) := by decide +kernel
theorem dX11_ruleNow_109 : decode cX11_ruleNow 109 = .ok (.iconst 0, 1) := by decide +kernel
theorem dX11_ruleNow_110 : decode cX11_ruleNow 110 = .ok (.istore 4, 2) := by decide +kernel
theorem dX11_ruleNow_112 : decode cX11_ruleNow 112 = .ok (.iload 4, 2) := by decide +kernel
theorem dX11_ruleNow_114 : decode cX11_ruleNow 114 = .ok (.iconst 4, 1) := by decide +kernel
theorem dX11_ruleNow_115 : decode cX11_ruleNow 115 = .ok (.if_icmp .ge 27, 3) := by decide +kernel
theorem dX11_ruleNow_118 : decode cX11_ruleNow 118 = .ok (.aload_n 0, 1) := by decide +kernel
theorem dX11_ruleNow_119 : decode cX11_ruleNow 119 = .ok (.getfield 75, 3) := by decide +kernel
theorem dX11_ruleNow_122 : decode cX11_ruleNow 122 = .ok (.iconst 4, 1) := by decide +kernel
theorem dX11_ruleNow_123 : decode cX11_ruleNow 123 = .ok (.iload_n 2, 1) := by decide +kernel
theorem dX11_ruleNow_124 : decode cX11_ruleNow 124 = .ok (.imul, 1) := by decide +kernel
theorem dX11_ruleNow_125 : decode cX11_ruleNow 125 = .ok (.iload 4, 2) := by decide +kernel
theorem dX11_ruleNow_127 : decode cX11_ruleNow 127 = .ok (.iadd, 1) := by decide +kernel
theorem dX11_ruleNow_128 : decode cX11_ruleNow 128 = .ok (.aload_n 0, 1) := by decide +kernel
theorem dX11_ruleNow_129 : decode cX11_ruleNow 129 = .ok (.getfield 69, 3) := by decide +kernel
theorem dX11_ruleNow_132 : decode cX11_ruleNow 132 = .ok (.iload 4, 2) := by decide +kernel
theorem dX11_ruleNow_134 : decode cX11_ruleNow 134 = .ok (.iaload, 1) := by decide +kernel
theorem dX11_ruleNow_135 : decode cX11_ruleNow 135 = .ok (.iastore, 1) := by decide +kernel
theorem dX11_ruleNow_136 : decode cX11_ruleNow 136 = .ok (.iinc 4 1, 3) := by decide +kernel
theorem dX11_ruleNow_139 : decode cX11_ruleNow 139 = .ok (.goto (-27), 3) := by decide +kernel
theorem dX11_ruleNow_142 : decode cX11_ruleNow 142 = .ok (.aload_n 0, 1) := by decide +kernel
theorem dX11_ruleNow_143 : decode cX11_ruleNow 143 = .ok (.getfield 78, 3) := by decide +kernel
theorem dX11_ruleNow_146 : decode cX11_ruleNow 146 = .ok (.iload_n 2, 1) := by decide +kernel
theorem dX11_ruleNow_147 : decode cX11_ruleNow 147 = .ok (.iload_n 1, 1) := by decide +kernel
theorem dX11_ruleNow_148 : decode cX11_ruleNow 148 = .ok (.ifCond .eq 21, 3) := by decide +kernel
theorem dX11_ruleNow_151 : decode cX11_ruleNow 151 = .ok (.aload_n 0, 1) := by decide +kernel
theorem dX11_ruleNow_152 : decode cX11_ruleNow 152 = .ok (.aload_n 0, 1) := by decide +kernel
theorem dX11_ruleNow_153 : decode cX11_ruleNow 153 = .ok (.getfield 53, 3) := by decide +kernel
theorem dX11_ruleNow_156 : decode cX11_ruleNow 156 = .ok (.aload_n 0, 1) := by decide +kernel
theorem dX11_ruleNow_157 : decode cX11_ruleNow 157 = .ok (.getfield 44, 3) := by decide +kernel
theorem dX11_ruleNow_160 : decode cX11_ruleNow 160 = .ok (.bipush 9, 2) := by decide +kernel
theorem dX11_ruleNow_162 : decode cX11_ruleNow 162 = .ok (.iaload, 1) := by decide +kernel
theorem dX11_ruleNow_163 : decode cX11_ruleNow 163 = .ok (.invokevirtual 290, 3) := by decide +kernel
theorem dX11_ruleNow_166 : decode cX11_ruleNow 166 = .ok (.goto 18, 3) := by decide +kernel
theorem dX11_ruleNow_169 : decode cX11_ruleNow 169 = .ok (.aload_n 0, 1) := by decide +kernel
theorem dX11_ruleNow_170 : decode cX11_ruleNow 170 = .ok (.aload_n 0, 1) := by decide +kernel
theorem dX11_ruleNow_171 : decode cX11_ruleNow 171 = .ok (.getfield 50, 3) := by decide +kernel
theorem dX11_ruleNow_174 : decode cX11_ruleNow 174 = .ok (.aload_n 0, 1) := by decide +kernel
theorem dX11_ruleNow_175 : decode cX11_ruleNow 175 = .ok (.getfield 44, 3) := by decide +kernel
theorem dX11_ruleNow_178 : decode cX11_ruleNow 178 = .ok (.bipush 8, 2) := by decide +kernel
theorem dX11_ruleNow_180 : decode cX11_ruleNow 180 = .ok (.iaload, 1) := by decide +kernel
theorem dX11_ruleNow_181 : decode cX11_ruleNow 181 = .ok (.invokevirtual 290, 3) := by decide +kernel
theorem dX11_ruleNow_184 : decode cX11_ruleNow 184 = .ok (.iastore, 1) := by decide +kernel
theorem dX11_ruleNow_185 : decode cX11_ruleNow 185 = .ok (.aload_n 0, 1) := by decide +kernel
theorem dX11_ruleNow_186 : decode cX11_ruleNow 186 = .ok (.getfield 81, 3) := by decide +kernel
theorem dX11_ruleNow_189 : decode cX11_ruleNow 189 = .ok (.iload_n 2, 1) := by decide +kernel
theorem dX11_ruleNow_190 : decode cX11_ruleNow 190 = .ok (.iconst 1, 1) := by decide +kernel
theorem dX11_ruleNow_191 : decode cX11_ruleNow 191 = .ok (.bastore, 1) := by decide +kernel
theorem dX11_ruleNow_192 : decode cX11_ruleNow 192 = .ok (.aload_n 0, 1) := by decide +kernel
theorem dX11_ruleNow_193 : decode cX11_ruleNow 193 = .ok (.getfield 78, 3) := by decide +kernel
theorem dX11_ruleNow_196 : decode cX11_ruleNow 196 = .ok (.iload_n 2, 1) := by decide +kernel
theorem dX11_ruleNow_197 : decode cX11_ruleNow 197 = .ok (.iaload, 1) := by decide +kernel
theorem dX11_ruleNow_198 : decode cX11_ruleNow 198 = .ok (.ireturn, 1) := by decide +kernel
theorem dX11_valueNow_0 : decode cX11_valueNow 0 = .ok (.iconst 0, 1) := by decide +kernel
theorem dX11_valueNow_1 : decode cX11_valueNow 1 = .ok (.istore_n 3, 1) := by decide +kernel
theorem dX11_valueNow_2 : decode cX11_valueNow 2 = .ok (.iconst 0, 1) := by decide +kernel
theorem dX11_valueNow_3 : decode cX11_valueNow 3 = .ok (.istore 4, 2) := by decide +kernel
theorem dX11_valueNow_5 : decode cX11_valueNow 5 = .ok (.iload 4, 2) := by decide +kernel
theorem dX11_valueNow_7 : decode cX11_valueNow 7 = .ok (.iload_n 2, 1) := by decide +kernel
theorem dX11_valueNow_8 : decode cX11_valueNow 8 = .ok (.if_icmp .ge 117, 3) := by decide +kernel
theorem dX11_valueNow_11 : decode cX11_valueNow 11 = .ok (.aload_n 1, 1) := by decide +kernel
theorem dX11_valueNow_12 : decode cX11_valueNow 12 = .ok (.iload 4, 2) := by decide +kernel
theorem dX11_valueNow_14 : decode cX11_valueNow 14 = .ok (.iaload, 1) := by decide +kernel
theorem dX11_valueNow_15 : decode cX11_valueNow 15 = .ok (.istore 5, 2) := by decide +kernel
theorem dX11_valueNow_17 : decode cX11_valueNow 17 = .ok (.iload 5, 2) := by decide +kernel
theorem dX11_valueNow_19 : decode cX11_valueNow 19 = .ok (.bipush (-20), 2) := by decide +kernel
theorem dX11_valueNow_21 : decode cX11_valueNow 21 = .ok (.if_icmp .le 34, 3) := by decide +kernel
theorem dX11_valueNow_24 : decode cX11_valueNow 24 = .ok (.aload_n 0, 1) := by decide +kernel
theorem dX11_valueNow_25 : decode cX11_valueNow 25 = .ok (.getfield 72, 3) := by decide +kernel
theorem dX11_valueNow_28 : decode cX11_valueNow 28 = .ok (.iload_n 3, 1) := by decide +kernel
theorem dX11_valueNow_29 : decode cX11_valueNow 29 = .ok (.iload 5, 2) := by decide +kernel
theorem dX11_valueNow_31 : decode cX11_valueNow 31 = .ok (.ifCond .lt 8, 3) := by decide +kernel
theorem dX11_valueNow_34 : decode cX11_valueNow 34 = .ok (.iload 5, 2) := by decide +kernel
theorem dX11_valueNow_36 : decode cX11_valueNow 36 = .ok (.goto 12, 3) := by decide +kernel
theorem dX11_valueNow_39 : decode cX11_valueNow 39 = .ok (.aload_n 0, 1) := by decide +kernel
theorem dX11_valueNow_40 : decode cX11_valueNow 40 = .ok (.getfield 69, 3) := by decide +kernel
theorem dX11_valueNow_43 : decode cX11_valueNow 43 = .ok (.iconst (-1), 1) := by decide +kernel
theorem dX11_valueNow_44 : decode cX11_valueNow 44 = .ok (.iload 5, 2) := by decide +kernel
theorem dX11_valueNow_46 : decode cX11_valueNow 46 = .ok (.isub, 1) := by decide +kernel
theorem dX11_valueNow_47 : decode cX11_valueNow 47 = .ok (.iaload, 1) := by decide +kernel
theorem dX11_valueNow_48 : decode cX11_valueNow 48 = .ok (.iastore, 1) := by decide +kernel
theorem dX11_valueNow_49 : decode cX11_valueNow 49 = .ok (.iinc 3 1, 3) := by decide +kernel
theorem dX11_valueNow_52 : decode cX11_valueNow 52 = .ok (.goto 67, 3) := by decide +kernel
theorem dX11_valueNow_55 : decode cX11_valueNow 55 = .ok (.iload 5, 2) := by decide +kernel
theorem dX11_valueNow_57 : decode cX11_valueNow 57 = .ok (.bipush (-28), 2) := by decide +kernel
theorem dX11_valueNow_59 : decode cX11_valueNow 59 = .ok (.if_icmp .ne 30, 3) := by decide +kernel
theorem dX11_valueNow_62 : decode cX11_valueNow 62 = .ok (.aload_n 0, 1) := by decide +kernel
theorem dX11_valueNow_63 : decode cX11_valueNow 63 = .ok (.getfield 72, 3) := by decide +kernel
theorem dX11_valueNow_66 : decode cX11_valueNow 66 = .ok (.iload_n 3, 1) := by decide +kernel
theorem dX11_valueNow_67 : decode cX11_valueNow 67 = .ok (.iconst 1, 1) := by decide +kernel
theorem dX11_valueNow_68 : decode cX11_valueNow 68 = .ok (.isub, 1) := by decide +kernel
theorem dX11_valueNow_69 : decode cX11_valueNow 69 = .ok (.aload_n 0, 1) := by decide +kernel
theorem dX11_valueNow_70 : decode cX11_valueNow 70 = .ok (.getfield 72, 3) := by decide +kernel
theorem dX11_valueNow_73 : decode cX11_valueNow 73 = .ok (.iload_n 3, 1) := by decide +kernel
theorem dX11_valueNow_74 : decode cX11_valueNow 74 = .ok (.iconst 1, 1) := by decide +kernel
theorem dX11_valueNow_75 : decode cX11_valueNow 75 = .ok (.isub, 1) := by decide +kernel
theorem dX11_valueNow_76 : decode cX11_valueNow 76 = .ok (.iaload, 1) := by decide +kernel
theorem dX11_valueNow_77 : decode cX11_valueNow 77 = .ok (.ifCond .eq 7, 3) := by decide +kernel
theorem dX11_valueNow_80 : decode cX11_valueNow 80 = .ok (.iconst 0, 1) := by decide +kernel
theorem dX11_valueNow_81 : decode cX11_valueNow 81 = .ok (.goto 4, 3) := by decide +kernel
theorem dX11_valueNow_84 : decode cX11_valueNow 84 = .ok (.iconst 1, 1) := by decide +kernel
theorem dX11_valueNow_85 : decode cX11_valueNow 85 = .ok (.iastore, 1) := by decide +kernel
theorem dX11_valueNow_86 : decode cX11_valueNow 86 = .ok (.goto 33, 3) := by decide +kernel
theorem dX11_valueNow_89 : decode cX11_valueNow 89 = .ok (.iinc 3 (-1), 3) := by decide +kernel
theorem dX11_valueNow_92 : decode cX11_valueNow 92 = .ok (.aload_n 0, 1) := by decide +kernel
theorem dX11_valueNow_93 : decode cX11_valueNow 93 = .ok (.getfield 72, 3) := by decide +kernel
theorem dX11_valueNow_96 : decode cX11_valueNow 96 = .ok (.iload_n 3, 1) := by decide +kernel
theorem dX11_valueNow_97 : decode cX11_valueNow 97 = .ok (.iconst 1, 1) := by decide +kernel
theorem dX11_valueNow_98 : decode cX11_valueNow 98 = .ok (.isub, 1) := by decide +kernel
theorem dX11_valueNow_99 : decode cX11_valueNow 99 = .ok (.iload 5, 2) := by decide +kernel
theorem dX11_valueNow_101 : decode cX11_valueNow 101 = .ok (.aload_n 0, 1) := by decide +kernel
theorem dX11_valueNow_102 : decode cX11_valueNow 102 = .ok (.getfield 72, 3) := by decide +kernel
theorem dX11_valueNow_105 : decode cX11_valueNow 105 = .ok (.iload_n 3, 1) := by decide +kernel
theorem dX11_valueNow_106 : decode cX11_valueNow 106 = .ok (.iconst 1, 1) := by decide +kernel
theorem dX11_valueNow_107 : decode cX11_valueNow 107 = .ok (.isub, 1) := by decide +kernel
theorem dX11_valueNow_108 : decode cX11_valueNow 108 = .ok (.iaload, 1) := by decide +kernel
theorem dX11_valueNow_109 : decode cX11_valueNow 109 = .ok (.aload_n 0, 1) := by decide +kernel
theorem dX11_valueNow_110 : decode cX11_valueNow 110 = .ok (.getfield 72, 3) := by decide +kernel
theorem dX11_valueNow_113 : decode cX11_valueNow 113 = .ok (.iload_n 3, 1) := by decide +kernel
theorem dX11_valueNow_114 : decode cX11_valueNow 114 = .ok (.iaload, 1) := by decide +kernel
theorem dX11_valueNow_115 : decode cX11_valueNow 115 = .ok (.invokestatic 294, 3) := by decide +kernel
theorem dX11_valueNow_118 : decode cX11_valueNow 118 = .ok (.iastore, 1) := by decide +kernel
theorem dX11_valueNow_119 : decode cX11_valueNow 119 = .ok (.iinc 4 1, 3) := by decide +kernel
theorem dX11_valueNow_122 : decode cX11_valueNow 122 = .ok (.goto (-117), 3) := by decide +kernel
theorem dX11_valueNow_125 : decode cX11_valueNow 125 = .ok (.aload_n 0, 1) := by decide +kernel
theorem dX11_valueNow_126 : decode cX11_valueNow 126 = .ok (.getfield 72, 3) := by decide +kernel
theorem dX11_valueNow_129 : decode cX11_valueNow 129 = .ok (.iconst 0, 1) := by decide +kernel
theorem dX11_valueNow_130 : decode cX11_valueNow 130 = .ok (.iaload, 1) := by decide +kernel
theorem dX11_valueNow_131 : decode cX11_valueNow 131 = .ok (.ireturn, 1) := by decide +kernel
theorem dX11_isLost_0 : decode cX11_isLost 0 = .ok (.aload_n 0, 1) := by decide +kernel
theorem dX11_isLost_1 : decode cX11_isLost 1 = .ok (.getfield 298, 3) := by decide +kernel
theorem dX11_isLost_4 : decode cX11_isLost 4 = .ok (.ifCond .le 29, 3) := by decide +kernel
theorem dX11_isLost_7 : decode cX11_isLost 7 = .ok (.aload_n 0, 1) := by decide +kernel
theorem dX11_isLost_8 : decode cX11_isLost 8 = .ok (.dup, 1) := by decide +kernel
theorem dX11_isLost_9 : decode cX11_isLost 9 = .ok (.getfield 298, 3) := by decide +kernel
theorem dX11_isLost_12 : decode cX11_isLost 12 = .ok (.iconst 1, 1) := by decide +kernel
theorem dX11_isLost_13 : decode cX11_isLost 13 = .ok (.isub, 1) := by decide +kernel
theorem dX11_isLost_14 : decode cX11_isLost 14 = .ok (.putfield 298, 3) := by decide +kernel
theorem dX11_isLost_17 : decode cX11_isLost 17 = .ok (.aload_n 0, 1) := by decide +kernel
theorem dX11_isLost_18 : decode cX11_isLost 18 = .ok (.getfield 301, 3) := by decide +kernel
theorem dX11_isLost_21 : decode cX11_isLost 21 = .ok (.aload_n 0, 1) := by decide +kernel
theorem dX11_isLost_22 : decode cX11_isLost 22 = .ok (.getfield 298, 3) := by decide +kernel
theorem dX11_isLost_25 : decode cX11_isLost 25 = .ok (.invokestatic 240, 3) := by decide +kernel
theorem dX11_isLost_28 : decode cX11_isLost 28 = .ok (.ifCond .eq 28, 3) := by decide +kernel
theorem dX11_isLost_31 : decode cX11_isLost 31 = .ok (.iconst 1, 1) := by decide +kernel
theorem dX11_isLost_32 : decode cX11_isLost 32 = .ok (.ireturn, 1) := by decide +kernel
theorem dX11_isLost_33 : decode cX11_isLost 33 = .ok (.aload_n 0, 1) := by decide +kernel
theorem dX11_isLost_34 : decode cX11_isLost 34 = .ok (.getfield 59, 3) := by decide +kernel
theorem dX11_isLost_37 : decode cX11_isLost 37 = .ok (.bipush 25, 2) := by decide +kernel
theorem dX11_isLost_39 : decode cX11_isLost 39 = .ok (.iaload, 1) := by decide +kernel
theorem dX11_isLost_40 : decode cX11_isLost 40 = .ok (.ifCond .le 16, 3) := by decide +kernel
theorem dX11_isLost_43 : decode cX11_isLost 43 = .ok (.aload_n 0, 1) := by decide +kernel
theorem dX11_isLost_44 : decode cX11_isLost 44 = .ok (.getfield 59, 3) := by decide +kernel
theorem dX11_isLost_47 : decode cX11_isLost 47 = .ok (.bipush 25, 2) := by decide +kernel
theorem dX11_isLost_49 : decode cX11_isLost 49 = .ok (.dup2, 1) := by decide +kernel
theorem dX11_isLost_50 : decode cX11_isLost 50 = .ok (.iaload, 1) := by decide +kernel
theorem dX11_isLost_51 : decode cX11_isLost 51 = .ok (.iconst 1, 1) := by decide +kernel
theorem dX11_isLost_52 : decode cX11_isLost 52 = .ok (.isub, 1) := by decide +kernel
theorem dX11_isLost_53 : decode cX11_isLost 53 = .ok (.iastore, 1) := by decide +kernel
theorem dX11_isLost_54 : decode cX11_isLost 54 = .ok (.iconst 1, 1) := by decide +kernel
theorem dX11_isLost_55 : decode cX11_isLost 55 = .ok (.ireturn, 1) := by decide +kernel
theorem dX11_isLost_56 : decode cX11_isLost 56 = .ok (.aload_n 0, 1) := by decide +kernel
theorem dX11_isLost_57 : decode cX11_isLost 57 = .ok (.getfield 44, 3) := by decide +kernel
theorem dX11_isLost_60 : decode cX11_isLost 60 = .ok (.bipush 9, 2) := by decide +kernel
theorem dX11_isLost_62 : decode cX11_isLost 62 = .ok (.iaload, 1) := by decide +kernel
theorem dX11_isLost_63 : decode cX11_isLost 63 = .ok (.ifCond .le 11, 3) := by decide +kernel
theorem dX11_isLost_66 : decode cX11_isLost 66 = .ok (.aload_n 0, 1) := by decide +kernel
theorem dX11_isLost_67 : decode cX11_isLost 67 = .ok (.iconst 1, 1) := by decide +kernel
theorem dX11_isLost_68 : decode cX11_isLost 68 = .ok (.invokevirtual 304, 3) := by decide +kernel
theorem dX11_isLost_71 : decode cX11_isLost 71 = .ok (.ifCond .gt 15, 3) := by decide +kernel
theorem dX11_isLost_74 : decode cX11_isLost 74 = .ok (.aload_n 0, 1) := by decide +kernel
theorem dX11_isLost_75 : decode cX11_isLost 75 = .ok (.getfield 59, 3) := by decide +kernel
theorem dX11_isLost_78 : decode cX11_isLost 78 = .ok (.bipush 31, 2) := by decide +kernel
theorem dX11_isLost_80 : decode cX11_isLost 80 = .ok (.iaload, 1) := by decide +kernel
theorem dX11_isLost_81 : decode cX11_isLost 81 = .ok (.bipush 40, 2) := by decide +kernel
theorem dX11_isLost_83 : decode cX11_isLost 83 = .ok (.if_icmp .ne 7, 3) := by decide +kernel
theorem dX11_isLost_86 : decode cX11_isLost 86 = .ok (.iconst 1, 1) := by decide +kernel
theorem dX11_isLost_87 : decode cX11_isLost 87 = .ok (.goto 4, 3) := by decide +kernel
theorem dX11_isLost_90 : decode cX11_isLost 90 = .ok (.iconst 0, 1) := by decide +kernel
theorem dX11_isLost_91 : decode cX11_isLost 91 = .ok (.ireturn, 1) := by decide +kernel
theorem dX11_send_0 : decode cX11_send 0 = .ok (.aload_n 0, 1) := by decide +kernel
theorem dX11_send_1 : decode cX11_send 1 = .ok (.getfield 69, 3) := by decide +kernel
theorem dX11_send_4 : decode cX11_send 4 = .ok (.iconst 0, 1) := by decide +kernel
theorem dX11_send_5 : decode cX11_send 5 = .ok (.aload_n 0, 1) := by decide +kernel
theorem dX11_send_6 : decode cX11_send 6 = .ok (.getfield 59, 3) := by decide +kernel
theorem dX11_send_9 : decode cX11_send 9 = .ok (.iconst 2, 1) := by decide +kernel
theorem dX11_send_10 : decode cX11_send 10 = .ok (.iaload, 1) := by decide +kernel
theorem dX11_send_11 : decode cX11_send 11 = .ok (.iastore, 1) := by decide +kernel
theorem dX11_send_12 : decode cX11_send 12 = .ok (.aload_n 0, 1) := by decide +kernel
theorem dX11_send_13 : decode cX11_send 13 = .ok (.getfield 69, 3) := by decide +kernel
theorem dX11_send_16 : decode cX11_send 16 = .ok (.iconst 1, 1) := by decide +kernel
theorem dX11_send_17 : decode cX11_send 17 = .ok (.aload_n 0, 1) := by decide +kernel
theorem dX11_send_18 : decode cX11_send 18 = .ok (.getfield 59, 3) := by decide +kernel
theorem dX11_send_21 : decode cX11_send 21 = .ok (.iconst 0, 1) := by decide +kernel
theorem dX11_send_22 : decode cX11_send 22 = .ok (.iaload, 1) := by decide +kernel
theorem dX11_send_23 : decode cX11_send 23 = .ok (.iastore, 1) := by decide +kernel
theorem dX11_send_24 : decode cX11_send 24 = .ok (.aload_n 0, 1) := by decide +kernel
theorem dX11_send_25 : decode cX11_send 25 = .ok (.getfield 69, 3) := by decide +kernel
theorem dX11_send_28 : decode cX11_send 28 = .ok (.iconst 2, 1) := by decide +kernel
theorem dX11_send_29 : decode cX11_send 29 = .ok (.aload_n 0, 1) := by decide +kernel
theorem dX11_send_30 : decode cX11_send 30 = .ok (.getfield 59, 3) := by decide +kernel
theorem dX11_send_33 : decode cX11_send 33 = .ok (.bipush 24, 2) := by decide +kernel
theorem dX11_send_35 : decode cX11_send 35 = .ok (.iaload, 1) := by decide +kernel
theorem dX11_send_36 : decode cX11_send 36 = .ok (.iastore, 1) := by decide +kernel
theorem dX11_send_37 : decode cX11_send 37 = .ok (.aload_n 0, 1) := by decide +kernel
theorem dX11_send_38 : decode cX11_send 38 = .ok (.getfield 69, 3) := by decide +kernel
theorem dX11_send_41 : decode cX11_send 41 = .ok (.iconst 3, 1) := by decide +kernel
theorem dX11_send_42 : decode cX11_send 42 = .ok (.aload_n 0, 1) := by decide +kernel
theorem dX11_send_43 : decode cX11_send 43 = .ok (.getfield 59, 3) := by decide +kernel
theorem dX11_send_46 : decode cX11_send 46 = .ok (.bipush 31, 2) := by decide +kernel
theorem dX11_send_48 : decode cX11_send 48 = .ok (.iaload, 1) := by decide +kernel
theorem dX11_send_49 : decode cX11_send 49 = .ok (.iastore, 1) := by decide +kernel
theorem dX11_send_50 : decode cX11_send 50 = .ok (.aload_n 0, 1) := by decide +kernel
theorem dX11_send_51 : decode cX11_send 51 = .ok (.getfield 44, 3) := by decide +kernel
theorem dX11_send_54 : decode cX11_send 54 = .ok (.bipush 8, 2) := by decide +kernel
theorem dX11_send_56 : decode cX11_send 56 = .ok (.iaload, 1) := by decide +kernel
theorem dX11_send_57 : decode cX11_send 57 = .ok (.ifCond .ne 7, 3) := by decide +kernel
theorem dX11_send_60 : decode cX11_send 60 = .ok (.iconst 3, 1) := by decide +kernel
theorem dX11_send_61 : decode cX11_send 61 = .ok (.goto 14, 3) := by decide +kernel
theorem dX11_send_64 : decode cX11_send 64 = .ok (.aload_n 0, 1) := by decide +kernel
theorem dX11_send_65 : decode cX11_send 65 = .ok (.iconst 0, 1) := by decide +kernel
theorem dX11_send_66 : decode cX11_send 66 = .ok (.invokevirtual 304, 3) := by decide +kernel
theorem dX11_send_69 : decode cX11_send 69 = .ok (.iconst 0, 1) := by decide +kernel
theorem dX11_send_70 : decode cX11_send 70 = .ok (.bipush 60, 2) := by decide +kernel
theorem dX11_send_72 : decode cX11_send 72 = .ok (.invokestatic 308, 3) := by decide +kernel
theorem dX11_send_75 : decode cX11_send 75 = .ok (.istore_n 1, 1) := by decide +kernel
theorem dX11_send_76 : decode cX11_send 76 = .ok (.aload_n 0, 1) := by decide +kernel
theorem dX11_send_77 : decode cX11_send 77 = .ok (.invokevirtual 311, 3) := by decide +kernel
theorem dX11_send_80 : decode cX11_send 80 = .ok (.ifCond .eq 16, 3) := by decide +kernel
theorem dX11_send_83 : decode cX11_send 83 = .ok (.aload_n 0, 1) := by decide +kernel
theorem dX11_send_84 : decode cX11_send 84 = .ok (.getfield 59, 3) := by decide +kernel
theorem dX11_send_87 : decode cX11_send 87 = .ok (.iconst 3, 1) := by decide +kernel
theorem dX11_send_88 : decode cX11_send 88 = .ok (.dup2, 1) := by decide +kernel
theorem dX11_send_89 : decode cX11_send 89 = .ok (.iaload, 1) := by decide +kernel
theorem dX11_send_90 : decode cX11_send 90 = .ok (.iconst 1, 1) := by decide +kernel
theorem dX11_send_91 : decode cX11_send 91 = .ok (.iadd, 1) := by decide +kernel
theorem dX11_send_92 : decode cX11_send 92 = .ok (.iastore, 1) := by decide +kernel
theorem dX11_send_93 : decode cX11_send 93 = .ok (.goto 81, 3) := by decide +kernel
theorem dX11_send_96 : decode cX11_send 96 = .ok (.bipush 33, 2) := by decide +kernel
theorem dX11_send_98 : decode cX11_send 98 = .ok (.iconst 3, 1) := by decide +kernel
theorem dX11_send_99 : decode cX11_send 99 = .ok (.aload_n 0, 1) := by decide +kernel
theorem dX11_send_100 : decode cX11_send 100 = .ok (.getfield 59, 3) := by decide +kernel
theorem dX11_send_103 : decode cX11_send 103 = .ok (.bipush 31, 2) := by decide +kernel
theorem dX11_send_105 : decode cX11_send 105 = .ok (.iaload, 1) := by decide +kernel
theorem dX11_send_106 : decode cX11_send 106 = .ok (.imul, 1) := by decide +kernel
theorem dX11_send_107 : decode cX11_send 107 = .ok (.iadd, 1) := by decide +kernel
theorem dX11_send_108 : decode cX11_send 108 = .ok (.istore_n 2, 1) := by decide +kernel
theorem dX11_send_109 : decode cX11_send 109 = .ok (.aload_n 0, 1) := by decide +kernel
theorem dX11_send_110 : decode cX11_send 110 = .ok (.getfield 59, 3) := by decide +kernel
theorem dX11_send_113 : decode cX11_send 113 = .ok (.iload_n 2, 1) := by decide +kernel
theorem dX11_send_114 : decode cX11_send 114 = .ok (.aload_n 0, 1) := by decide +kernel
theorem dX11_send_115 : decode cX11_send 115 = .ok (.getfield 59, 3) := by decide +kernel
theorem dX11_send_118 : decode cX11_send 118 = .ok (.iconst 2, 1) := by decide +kernel
theorem dX11_send_119 : decode cX11_send 119 = .ok (.iaload, 1) := by decide +kernel
theorem dX11_send_120 : decode cX11_send 120 = .ok (.iastore, 1) := by decide +kernel
theorem dX11_send_121 : decode cX11_send 121 = .ok (.aload_n 0, 1) := by decide +kernel
theorem dX11_send_122 : decode cX11_send 122 = .ok (.getfield 59, 3) := by decide +kernel
theorem dX11_send_125 : decode cX11_send 125 = .ok (.iload_n 2, 1) := by decide +kernel
theorem dX11_send_126 : decode cX11_send 126 = .ok (.iconst 1, 1) := by decide +kernel
theorem dX11_send_127 : decode cX11_send 127 = .ok (.iadd, 1) := by decide +kernel
theorem dX11_send_128 : decode cX11_send 128 = .ok (.aload_n 0, 1) := by decide +kernel
theorem dX11_send_129 : decode cX11_send 129 = .ok (.getfield 59, 3) := by decide +kernel
theorem dX11_send_132 : decode cX11_send 132 = .ok (.iconst 0, 1) := by decide +kernel
theorem dX11_send_133 : decode cX11_send 133 = .ok (.iaload, 1) := by decide +kernel
theorem dX11_send_134 : decode cX11_send 134 = .ok (.iload_n 1, 1) := by decide +kernel
theorem dX11_send_135 : decode cX11_send 135 = .ok (.iadd, 1) := by decide +kernel
theorem dX11_send_136 : decode cX11_send 136 = .ok (.aload_n 0, 1) := by decide +kernel
theorem dX11_send_137 : decode cX11_send 137 = .ok (.getfield 59, 3) := by decide +kernel
theorem dX11_send_140 : decode cX11_send 140 = .ok (.bipush 26, 2) := by decide +kernel
theorem dX11_send_142 : decode cX11_send 142 = .ok (.iaload, 1) := by decide +kernel
theorem dX11_send_143 : decode cX11_send 143 = .ok (.iadd, 1) := by decide +kernel
theorem dX11_send_144 : decode cX11_send 144 = .ok (.iastore, 1) := by decide +kernel
theorem dX11_send_145 : decode cX11_send 145 = .ok (.aload_n 0, 1) := by decide +kernel
theorem dX11_send_146 : decode cX11_send 146 = .ok (.getfield 59, 3) := by decide +kernel
theorem dX11_send_149 : decode cX11_send 149 = .ok (.iload_n 2, 1) := by decide +kernel
theorem dX11_send_150 : decode cX11_send 150 = .ok (.iconst 2, 1) := by decide +kernel
theorem dX11_send_151 : decode cX11_send 151 = .ok (.iadd, 1) := by decide +kernel
theorem dX11_send_152 : decode cX11_send 152 = .ok (.aload_n 0, 1) := by decide +kernel
theorem dX11_send_153 : decode cX11_send 153 = .ok (.getfield 59, 3) := by decide +kernel
theorem dX11_send_156 : decode cX11_send 156 = .ok (.iconst 0, 1) := by decide +kernel
theorem dX11_send_157 : decode cX11_send 157 = .ok (.iaload, 1) := by decide +kernel
theorem dX11_send_158 : decode cX11_send 158 = .ok (.sipush 255, 3) := by decide +kernel
theorem dX11_send_161 : decode cX11_send 161 = .ok (.iand, 1) := by decide +kernel
theorem dX11_send_162 : decode cX11_send 162 = .ok (.iastore, 1) := by decide +kernel
theorem dX11_send_163 : decode cX11_send 163 = .ok (.aload_n 0, 1) := by decide +kernel
theorem dX11_send_164 : decode cX11_send 164 = .ok (.getfield 59, 3) := by decide +kernel
theorem dX11_send_167 : decode cX11_send 167 = .ok (.bipush 31, 2) := by decide +kernel
theorem dX11_send_169 : decode cX11_send 169 = .ok (.dup2, 1) := by decide +kernel
theorem dX11_send_170 : decode cX11_send 170 = .ok (.iaload, 1) := by decide +kernel
theorem dX11_send_171 : decode cX11_send 171 = .ok (.iconst 1, 1) := by decide +kernel
theorem dX11_send_172 : decode cX11_send 172 = .ok (.iadd, 1) := by decide +kernel
theorem dX11_send_173 : decode cX11_send 173 = .ok (.iastore, 1) := by decide +kernel
theorem dX11_send_174 : decode cX11_send 174 = .ok (.aload_n 0, 1) := by decide +kernel
theorem dX11_send_175 : decode cX11_send 175 = .ok (.getfield 59, 3) := by decide +kernel
theorem dX11_send_178 : decode cX11_send 178 = .ok (.bipush 24, 2) := by decide +kernel
theorem dX11_send_180 : decode cX11_send 180 = .ok (.iload_n 1, 1) := by decide +kernel
theorem dX11_send_181 : decode cX11_send 181 = .ok (.iastore, 1) := by decide +kernel
theorem dX11_send_182 : decode cX11_send 182 = .ok (.aload_n 0, 1) := by decide +kernel
theorem dX11_send_183 : decode cX11_send 183 = .ok (.getfield 59, 3) := by decide +kernel
theorem dX11_send_186 : decode cX11_send 186 = .ok (.iconst 2, 1) := by decide +kernel
theorem dX11_send_187 : decode cX11_send 187 = .ok (.dup2, 1) := by decide +kernel
theorem dX11_send_188 : decode cX11_send 188 = .ok (.iaload, 1) := by decide +kernel
theorem dX11_send_189 : decode cX11_send 189 = .ok (.iconst 1, 1) := by decide +kernel
theorem dX11_send_190 : decode cX11_send 190 = .ok (.iadd, 1) := by decide +kernel
theorem dX11_send_191 : decode cX11_send 191 = .ok (.iastore, 1) := by decide +kernel
theorem dX11_send_192 : decode cX11_send 192 = .ok (.return_, 1) := by decide +kernel
theorem dX11_makeOctets_0 : decode cX11_makeOctets 0 = .ok (.aload_n 0, 1) := by decide +kernel
theorem dX11_makeOctets_1 : decode cX11_makeOctets 1 = .ok (.getfield 59, 3) := by decide +kernel
theorem dX11_makeOctets_4 : decode cX11_makeOctets 4 = .ok (.bipush 22, 2) := by decide +kernel
theorem dX11_makeOctets_6 : decode cX11_makeOctets 6 = .ok (.dup2, 1) := by decide +kernel
theorem dX11_makeOctets_7 : decode cX11_makeOctets 7 = .ok (.iaload, 1) := by decide +kernel
theorem dX11_makeOctets_8 : decode cX11_makeOctets 8 = .ok (.sipush 1000, 3) := by decide +kernel
theorem dX11_makeOctets_11 : decode cX11_makeOctets 11 = .ok (.aload_n 0, 1) := by decide +kernel
theorem dX11_makeOctets_12 : decode cX11_makeOctets 12 = .ok (.getfield 59, 3) := by decide +kernel
theorem dX11_makeOctets_15 : decode cX11_makeOctets 15 = .ok (.bipush 27, 2) := by decide +kernel
theorem dX11_makeOctets_17 : decode cX11_makeOctets 17 = .ok (.iaload, 1) := by decide +kernel
theorem dX11_makeOctets_18 : decode cX11_makeOctets 18 = .ok (.iadd, 1) := by decide +kernel
theorem dX11_makeOctets_19 : decode cX11_makeOctets 19 = .ok (.iadd, 1) := by decide +kernel
theorem dX11_makeOctets_20 : decode cX11_makeOctets 20 = .ok (.iastore, 1) := by decide +kernel
theorem dX11_makeOctets_21 : decode cX11_makeOctets 21 = .ok (.aload_n 0, 1) := by decide +kernel
theorem dX11_makeOctets_22 : decode cX11_makeOctets 22 = .ok (.getfield 59, 3) := by decide +kernel
theorem dX11_makeOctets_25 : decode cX11_makeOctets 25 = .ok (.bipush 22, 2) := by decide +kernel
theorem dX11_makeOctets_27 : decode cX11_makeOctets 27 = .ok (.iaload, 1) := by decide +kernel
theorem dX11_makeOctets_28 : decode cX11_makeOctets 28 = .ok (.sipush 1000, 3) := by decide +kernel
theorem dX11_makeOctets_31 : decode cX11_makeOctets 31 = .ok (.if_icmp .lt 49, 3) := by decide +kernel
theorem dX11_makeOctets_34 : decode cX11_makeOctets 34 = .ok (.aload_n 0, 1) := by decide +kernel
theorem dX11_makeOctets_35 : decode cX11_makeOctets 35 = .ok (.getfield 59, 3) := by decide +kernel
theorem dX11_makeOctets_38 : decode cX11_makeOctets 38 = .ok (.bipush 22, 2) := by decide +kernel
theorem dX11_makeOctets_40 : decode cX11_makeOctets 40 = .ok (.dup2, 1) := by decide +kernel
theorem dX11_makeOctets_41 : decode cX11_makeOctets 41 = .ok (.iaload, 1) := by decide +kernel
theorem dX11_makeOctets_42 : decode cX11_makeOctets 42 = .ok (.sipush 1000, 3) := by decide +kernel
theorem dX11_makeOctets_45 : decode cX11_makeOctets 45 = .ok (.isub, 1) := by decide +kernel
theorem dX11_makeOctets_46 : decode cX11_makeOctets 46 = .ok (.iastore, 1) := by decide +kernel
theorem dX11_makeOctets_47 : decode cX11_makeOctets 47 = .ok (.aload_n 0, 1) := by decide +kernel
theorem dX11_makeOctets_48 : decode cX11_makeOctets 48 = .ok (.getfield 59, 3) := by decide +kernel
theorem dX11_makeOctets_51 : decode cX11_makeOctets 51 = .ok (.iconst 1, 1) := by decide +kernel
theorem dX11_makeOctets_52 : decode cX11_makeOctets 52 = .ok (.dup2, 1) := by decide +kernel
theorem dX11_makeOctets_53 : decode cX11_makeOctets 53 = .ok (.iaload, 1) := by decide +kernel
theorem dX11_makeOctets_54 : decode cX11_makeOctets 54 = .ok (.iconst 1, 1) := by decide +kernel
theorem dX11_makeOctets_55 : decode cX11_makeOctets 55 = .ok (.iadd, 1) := by decide +kernel
theorem dX11_makeOctets_56 : decode cX11_makeOctets 56 = .ok (.iastore, 1) := by decide +kernel
theorem dX11_makeOctets_57 : decode cX11_makeOctets 57 = .ok (.aload_n 0, 1) := by decide +kernel
theorem dX11_makeOctets_58 : decode cX11_makeOctets 58 = .ok (.getfield 59, 3) := by decide +kernel
theorem dX11_makeOctets_61 : decode cX11_makeOctets 61 = .ok (.iconst 1, 1) := by decide +kernel
theorem dX11_makeOctets_62 : decode cX11_makeOctets 62 = .ok (.iaload, 1) := by decide +kernel
theorem dX11_makeOctets_63 : decode cX11_makeOctets 63 = .ok (.aload_n 0, 1) := by decide +kernel
theorem dX11_makeOctets_64 : decode cX11_makeOctets 64 = .ok (.getfield 44, 3) := by decide +kernel
theorem dX11_makeOctets_67 : decode cX11_makeOctets 67 = .ok (.iconst 0, 1) := by decide +kernel
theorem dX11_makeOctets_68 : decode cX11_makeOctets 68 = .ok (.iaload, 1) := by decide +kernel
theorem dX11_makeOctets_69 : decode cX11_makeOctets 69 = .ok (.irem, 1) := by decide +kernel
theorem dX11_makeOctets_70 : decode cX11_makeOctets 70 = .ok (.ifCond .ne (-49), 3) := by decide +kernel
theorem dX11_makeOctets_73 : decode cX11_makeOctets 73 = .ok (.aload_n 0, 1) := by decide +kernel
theorem dX11_makeOctets_74 : decode cX11_makeOctets 74 = .ok (.invokevirtual 315, 3) := by decide +kernel
theorem dX11_makeOctets_77 : decode cX11_makeOctets 77 = .ok (.goto (-56), 3) := by decide +kernel
theorem dX11_makeOctets_80 : decode cX11_makeOctets 80 = .ok (.return_, 1) := by decide +kernel
theorem dX11_spotNow_0 : decode cX11_spotNow 0 = .ok (.aload_n 0, 1) := by decide +kernel
theorem dX11_spotNow_1 : decode cX11_spotNow 1 = .ok (.getfield 59, 3) := by decide +kernel
theorem dX11_spotNow_4 : decode cX11_spotNow 4 = .ok (.bipush 14, 2) := by decide +kernel
theorem dX11_spotNow_6 : decode cX11_spotNow 6 = .ok (.iaload, 1) := by decide +kernel
theorem dX11_spotNow_7 : decode cX11_spotNow 7 = .ok (.aload_n 0, 1) := by decide +kernel
theorem dX11_spotNow_8 : decode cX11_spotNow 8 = .ok (.getfield 44, 3) := by decide +kernel
theorem dX11_spotNow_11 : decode cX11_spotNow 11 = .ok (.iconst 0, 1) := by decide +kernel
theorem dX11_spotNow_12 : decode cX11_spotNow 12 = .ok (.iaload, 1) := by decide +kernel
theorem dX11_spotNow_13 : decode cX11_spotNow 13 = .ok (.idiv, 1) := by decide +kernel
theorem dX11_spotNow_14 : decode cX11_spotNow 14 = .ok (.ireturn, 1) := by decide +kernel
theorem dX11_emptySlots_0 : decode cX11_emptySlots 0 = .ok (.iconst 0, 1) := by decide +kernel
theorem dX11_emptySlots_1 : decode cX11_emptySlots 1 = .ok (.istore_n 1, 1) := by decide +kernel
theorem dX11_emptySlots_2 : decode cX11_emptySlots 2 = .ok (.iload_n 1, 1) := by decide +kernel
theorem dX11_emptySlots_3 : decode cX11_emptySlots 3 = .ok (.bipush 64, 2) := by decide +kernel
theorem dX11_emptySlots_5 : decode cX11_emptySlots 5 = .ok (.if_icmp .ge 31, 3) := by decide +kernel
theorem dX11_emptySlots_8 : decode cX11_emptySlots 8 = .ok (.aload_n 0, 1) := by decide +kernel
theorem dX11_emptySlots_9 : decode cX11_emptySlots 9 = .ok (.getfield 59, 3) := by decide +kernel
theorem dX11_emptySlots_12 : decode cX11_emptySlots 12 = .ok (.sipush 153, 3) := by decide +kernel
theorem dX11_emptySlots_15 : decode cX11_emptySlots 15 = .ok (.iload_n 1, 1) := by decide +kernel
theorem dX11_emptySlots_16 : decode cX11_emptySlots 16 = .ok (.iadd, 1) := by decide +kernel
theorem dX11_emptySlots_17 : decode cX11_emptySlots 17 = .ok (.iconst (-1), 1) := by decide +kernel
theorem dX11_emptySlots_18 : decode cX11_emptySlots 18 = .ok (.iastore, 1) := by decide +kernel
theorem dX11_emptySlots_19 : decode cX11_emptySlots 19 = .ok (.aload_n 0, 1) := by decide +kernel
theorem dX11_emptySlots_20 : decode cX11_emptySlots 20 = .ok (.getfield 59, 3) := by decide +kernel
theorem dX11_emptySlots_23 : decode cX11_emptySlots 23 = .ok (.sipush 217, 3) := by decide +kernel
theorem dX11_emptySlots_26 : decode cX11_emptySlots 26 = .ok (.iload_n 1, 1) := by decide +kernel
theorem dX11_emptySlots_27 : decode cX11_emptySlots 27 = .ok (.iadd, 1) := by decide +kernel
theorem dX11_emptySlots_28 : decode cX11_emptySlots 28 = .ok (.iconst (-1), 1) := by decide +kernel
theorem dX11_emptySlots_29 : decode cX11_emptySlots 29 = .ok (.iastore, 1) := by decide +kernel
theorem dX11_emptySlots_30 : decode cX11_emptySlots 30 = .ok (.iinc 1 1, 3) := by decide +kernel
theorem dX11_emptySlots_33 : decode cX11_emptySlots 33 = .ok (.goto (-31), 3) := by decide +kernel
theorem dX11_emptySlots_36 : decode cX11_emptySlots 36 = .ok (.return_, 1) := by decide +kernel
theorem dX11_come_0 : decode cX11_come 0 = .ok (.iload_n 1, 1) := by decide +kernel
theorem dX11_come_1 : decode cX11_come 1 = .ok (.bipush 64, 2) := by decide +kernel
theorem dX11_come_3 : decode cX11_come 3 = .ok (.irem, 1) := by decide +kernel
theorem dX11_come_4 : decode cX11_come 4 = .ok (.istore_n 3, 1) := by decide +kernel
theorem dX11_come_5 : decode cX11_come 5 = .ok (.aload_n 0, 1) := by decide +kernel
theorem dX11_come_6 : decode cX11_come 6 = .ok (.getfield 59, 3) := by decide +kernel
theorem dX11_come_9 : decode cX11_come 9 = .ok (.bipush 8, 2) := by decide +kernel
theorem dX11_come_11 : decode cX11_come 11 = .ok (.iaload, 1) := by decide +kernel
theorem dX11_come_12 : decode cX11_come 12 = .ok (.ifCond .ne 88, 3) := by decide +kernel
theorem dX11_come_15 : decode cX11_come 15 = .ok (.aload_n 0, 1) := by decide +kernel
theorem dX11_come_16 : decode cX11_come 16 = .ok (.getfield 59, 3) := by decide +kernel
theorem dX11_come_19 : decode cX11_come 19 = .ok (.bipush 14, 2) := by decide +kernel
theorem dX11_come_21 : decode cX11_come 21 = .ok (.aload_n 0, 1) := by decide +kernel
theorem dX11_come_22 : decode cX11_come 22 = .ok (.getfield 44, 3) := by decide +kernel
theorem dX11_come_25 : decode cX11_come 25 = .ok (.iconst 0, 1) := by decide +kernel
theorem dX11_come_26 : decode cX11_come 26 = .ok (.iaload, 1) := by decide +kernel
theorem dX11_come_27 : decode cX11_come 27 = .ok (.iload_n 3, 1) := by decide +kernel
theorem dX11_come_28 : decode cX11_come 28 = .ok (.imul, 1) := by decide +kernel
theorem dX11_come_29 : decode cX11_come 29 = .ok (.iastore, 1) := by decide +kernel
theorem dX11_come_30 : decode cX11_come 30 = .ok (.aload_n 0, 1) := by decide +kernel
theorem dX11_come_31 : decode cX11_come 31 = .ok (.getfield 59, 3) := by decide +kernel
theorem dX11_come_34 : decode cX11_come 34 = .ok (.bipush 8, 2) := by decide +kernel
theorem dX11_come_36 : decode cX11_come 36 = .ok (.iconst 1, 1) := by decide +kernel
theorem dX11_come_37 : decode cX11_come 37 = .ok (.iastore, 1) := by decide +kernel
theorem dX11_come_38 : decode cX11_come 38 = .ok (.aload_n 0, 1) := by decide +kernel
theorem dX11_come_39 : decode cX11_come 39 = .ok (.getfield 59, 3) := by decide +kernel
theorem dX11_come_42 : decode cX11_come 42 = .ok (.bipush 16, 2) := by decide +kernel
theorem dX11_come_44 : decode cX11_come 44 = .ok (.iload_n 1, 1) := by decide +kernel
theorem dX11_come_45 : decode cX11_come 45 = .ok (.iastore, 1) := by decide +kernel
theorem dX11_come_46 : decode cX11_come 46 = .ok (.aload_n 0, 1) := by decide +kernel
theorem dX11_come_47 : decode cX11_come 47 = .ok (.getfield 59, 3) := by decide +kernel
theorem dX11_come_50 : decode cX11_come 50 = .ok (.bipush 15, 2) := by decide +kernel
theorem dX11_come_52 : decode cX11_come 52 = .ok (.aload_n 0, 1) := by decide +kernel
theorem dX11_come_53 : decode cX11_come 53 = .ok (.getfield 59, 3) := by decide +kernel
theorem dX11_come_56 : decode cX11_come 56 = .ok (.bipush 14, 2) := by decide +kernel
theorem dX11_come_58 : decode cX11_come 58 = .ok (.iaload, 1) := by decide +kernel
theorem dX11_come_59 : decode cX11_come 59 = .ok (.iastore, 1) := by decide +kernel
theorem dX11_come_60 : decode cX11_come 60 = .ok (.aload_n 0, 1) := by decide +kernel
theorem dX11_come_61 : decode cX11_come 61 = .ok (.getfield 59, 3) := by decide +kernel
theorem dX11_come_64 : decode cX11_come 64 = .ok (.bipush 17, 2) := by decide +kernel
theorem dX11_come_66 : decode cX11_come 66 = .ok (.iload_n 3, 1) := by decide +kernel
theorem dX11_come_67 : decode cX11_come 67 = .ok (.iastore, 1) := by decide +kernel
theorem dX11_come_68 : decode cX11_come 68 = .ok (.aload_n 0, 1) := by decide +kernel
theorem dX11_come_69 : decode cX11_come 69 = .ok (.getfield 59, 3) := by decide +kernel
theorem dX11_come_72 : decode cX11_come 72 = .ok (.bipush 18, 2) := by decide +kernel
theorem dX11_come_74 : decode cX11_come 74 = .ok (.iload_n 3, 1) := by decide +kernel
theorem dX11_come_75 : decode cX11_come 75 = .ok (.iastore, 1) := by decide +kernel
theorem dX11_come_76 : decode cX11_come 76 = .ok (.aload_n 0, 1) := by decide +kernel
theorem dX11_come_77 : decode cX11_come 77 = .ok (.getfield 59, 3) := by decide +kernel
theorem dX11_come_80 : decode cX11_come 80 = .ok (.bipush 19, 2) := by decide +kernel
theorem dX11_come_82 : decode cX11_come 82 = .ok (.iload_n 2, 1) := by decide +kernel
theorem dX11_come_83 : decode cX11_come 83 = .ok (.iastore, 1) := by decide +kernel
theorem dX11_come_84 : decode cX11_come 84 = .ok (.aload_n 0, 1) := by decide +kernel
theorem dX11_come_85 : decode cX11_come 85 = .ok (.getfield 59, 3) := by decide +kernel
theorem dX11_come_88 : decode cX11_come 88 = .ok (.bipush 20, 2) := by decide +kernel
theorem dX11_come_90 : decode cX11_come 90 = .ok (.iconst 0, 1) := by decide +kernel
theorem dX11_come_91 : decode cX11_come 91 = .ok (.iastore, 1) := by decide +kernel
theorem dX11_come_92 : decode cX11_come 92 = .ok (.aload_n 0, 1) := by decide +kernel
theorem dX11_come_93 : decode cX11_come 93 = .ok (.getfield 59, 3) := by decide +kernel
theorem dX11_come_96 : decode cX11_come 96 = .ok (.bipush 21, 2) := by decide +kernel
theorem dX11_come_98 : decode cX11_come 98 = .ok (.iconst 0, 1) := by decide +kernel
theorem dX11_come_99 : decode cX11_come 99 = .ok (.iastore, 1) := by decide +kernel
theorem dX11_come_100 : decode cX11_come 100 = .ok (.iload_n 3, 1) := by decide +kernel
theorem dX11_come_101 : decode cX11_come 101 = .ok (.aload_n 0, 1) := by decide +kernel
theorem dX11_come_102 : decode cX11_come 102 = .ok (.invokevirtual 318, 3) := by decide +kernel
theorem dX11_come_105 : decode cX11_come 105 = .ok (.bipush 64, 2) := by decide +kernel
theorem dX11_come_107 : decode cX11_come 107 = .ok (.irem, 1) := by decide +kernel
theorem dX11_come_108 : decode cX11_come 108 = .ok (.isub, 1) := by decide +kernel
theorem dX11_come_109 : decode cX11_come 109 = .ok (.bipush 64, 2) := by decide +kernel
theorem dX11_come_111 : decode cX11_come 111 = .ok (.iadd, 1) := by decide +kernel
theorem dX11_come_112 : decode cX11_come 112 = .ok (.bipush 64, 2) := by decide +kernel
theorem dX11_come_114 : decode cX11_come 114 = .ok (.irem, 1) := by decide +kernel
theorem dX11_come_115 : decode cX11_come 115 = .ok (.istore 4, 2) := by decide +kernel
theorem dX11_come_117 : decode cX11_come 117 = .ok (.iload 4, 2) := by decide +kernel
theorem dX11_come_119 : decode cX11_come 119 = .ok (.bipush 32, 2) := by decide +kernel
theorem dX11_come_121 : decode cX11_come 121 = .ok (.if_icmp .lt 14, 3) := by decide +kernel
theorem dX11_come_124 : decode cX11_come 124 = .ok (.aload_n 0, 1) := by decide +kernel
theorem dX11_come_125 : decode cX11_come 125 = .ok (.getfield 59, 3) := by decide +kernel
theorem dX11_come_128 : decode cX11_come 128 = .ok (.iconst 4, 1) := by decide +kernel
theorem dX11_come_129 : decode cX11_come 129 = .ok (.dup2, 1) := by decide +kernel
theorem dX11_come_130 : decode cX11_come 130 = .ok (.iaload, 1) := by decide +kernel
theorem dX11_come_131 : decode cX11_come 131 = .ok (.iconst 1, 1) := by decide +kernel
theorem dX11_come_132 : decode cX11_come 132 = .ok (.iadd, 1) := by decide +kernel
theorem dX11_come_133 : decode cX11_come 133 = .ok (.iastore, 1) := by decide +kernel
theorem dX11_come_134 : decode cX11_come 134 = .ok (.return_, 1) := by decide +kernel
theorem dX11_come_135 : decode cX11_come 135 = .ok (.iload 4, 2) := by decide +kernel
theorem dX11_come_137 : decode cX11_come 137 = .ok (.bipush 16, 2) := by decide +kernel
theorem dX11_come_139 : decode cX11_come 139 = .ok (.if_icmp .lt 14, 3) := by decide +kernel
theorem dX11_come_142 : decode cX11_come 142 = .ok (.aload_n 0, 1) := by decide +kernel
theorem dX11_come_143 : decode cX11_come 143 = .ok (.getfield 59, 3) := by decide +kernel
theorem dX11_come_146 : decode cX11_come 146 = .ok (.iconst 5, 1) := by decide +kernel
theorem dX11_come_147 : decode cX11_come 147 = .ok (.dup2, 1) := by decide +kernel
theorem dX11_come_148 : decode cX11_come 148 = .ok (.iaload, 1) := by decide +kernel
theorem dX11_come_149 : decode cX11_come 149 = .ok (.iconst 1, 1) := by decide +kernel
theorem dX11_come_150 : decode cX11_come 150 = .ok (.iadd, 1) := by decide +kernel
theorem dX11_come_151 : decode cX11_come 151 = .ok (.iastore, 1) := by decide +kernel
theorem dX11_come_152 : decode cX11_come 152 = .ok (.return_, 1) := by decide +kernel
theorem dX11_come_153 : decode cX11_come 153 = .ok (.aload_n 0, 1) := by decide +kernel
theorem dX11_come_154 : decode cX11_come 154 = .ok (.invokevirtual 318, 3) := by decide +kernel
theorem dX11_come_157 : decode cX11_come 157 = .ok (.iload 4, 2) := by decide +kernel
theorem dX11_come_159 : decode cX11_come 159 = .ok (.iadd, 1) := by decide +kernel
theorem dX11_come_160 : decode cX11_come 160 = .ok (.istore 5, 2) := by decide +kernel
theorem dX11_come_162 : decode cX11_come 162 = .ok (.aload_n 0, 1) := by decide +kernel
theorem dX11_come_163 : decode cX11_come 163 = .ok (.getfield 59, 3) := by decide +kernel
theorem dX11_come_166 : decode cX11_come 166 = .ok (.sipush 153, 3) := by decide +kernel
theorem dX11_come_169 : decode cX11_come 169 = .ok (.iload_n 3, 1) := by decide +kernel
theorem dX11_come_170 : decode cX11_come 170 = .ok (.iadd, 1) := by decide +kernel
theorem dX11_come_171 : decode cX11_come 171 = .ok (.iload_n 1, 1) := by decide +kernel
theorem dX11_come_172 : decode cX11_come 172 = .ok (.iastore, 1) := by decide +kernel
theorem dX11_come_173 : decode cX11_come 173 = .ok (.aload_n 0, 1) := by decide +kernel
theorem dX11_come_174 : decode cX11_come 174 = .ok (.getfield 59, 3) := by decide +kernel
theorem dX11_come_177 : decode cX11_come 177 = .ok (.sipush 217, 3) := by decide +kernel
theorem dX11_come_180 : decode cX11_come 180 = .ok (.iload_n 3, 1) := by decide +kernel
theorem dX11_come_181 : decode cX11_come 181 = .ok (.iadd, 1) := by decide +kernel
theorem dX11_come_182 : decode cX11_come 182 = .ok (.iload 5, 2) := by decide +kernel
theorem dX11_come_184 : decode cX11_come 184 = .ok (.iastore, 1) := by decide +kernel
theorem dX11_come_185 : decode cX11_come 185 = .ok (.iload 5, 2) := by decide +kernel
theorem dX11_come_187 : decode cX11_come 187 = .ok (.aload_n 0, 1) := by decide +kernel
theorem dX11_come_188 : decode cX11_come 188 = .ok (.getfield 59, 3) := by decide +kernel
theorem dX11_come_191 : decode cX11_come 191 = .ok (.bipush 18, 2) := by decide +kernel
theorem dX11_come_193 : decode cX11_come 193 = .ok (.iaload, 1) := by decide +kernel
theorem dX11_come_194 : decode cX11_come 194 = .ok (.if_icmp .gt 4, 3) := by decide +kernel
theorem dX11_come_197 : decode cX11_come 197 = .ok (.return_, 1) := by decide +kernel
theorem dX11_come_198 : decode cX11_come 198 = .ok (.aload_n 0, 1) := by decide +kernel
theorem dX11_come_199 : decode cX11_come 199 = .ok (.getfield 59, 3) := by decide +kernel
theorem dX11_come_202 : decode cX11_come 202 = .ok (.bipush 21, 2) := by decide +kernel
theorem dX11_come_204 : decode cX11_come 204 = .ok (.iload 5, 2) := by decide +kernel
theorem dX11_come_206 : decode cX11_come 206 = .ok (.aload_n 0, 1) := by decide +kernel
theorem dX11_come_207 : decode cX11_come 207 = .ok (.getfield 59, 3) := by decide +kernel
theorem dX11_come_210 : decode cX11_come 210 = .ok (.bipush 17, 2) := by decide +kernel
theorem dX11_come_212 : decode cX11_come 212 = .ok (.iaload, 1) := by decide +kernel
theorem dX11_come_213 : decode cX11_come 213 = .ok (.isub, 1) := by decide +kernel
theorem dX11_come_214 : decode cX11_come 214 = .ok (.iastore, 1) := by decide +kernel
theorem dX11_come_215 : decode cX11_come 215 = .ok (.aload_n 0, 1) := by decide +kernel
theorem dX11_come_216 : decode cX11_come 216 = .ok (.getfield 59, 3) := by decide +kernel
theorem dX11_come_219 : decode cX11_come 219 = .ok (.bipush 20, 2) := by decide +kernel
theorem dX11_come_221 : decode cX11_come 221 = .ok (.dup2, 1) := by decide +kernel
theorem dX11_come_222 : decode cX11_come 222 = .ok (.iaload, 1) := by decide +kernel
theorem dX11_come_223 : decode cX11_come 223 = .ok (.iload_n 2, 1) := by decide +kernel
theorem dX11_come_224 : decode cX11_come 224 = .ok (.aload_n 0, 1) := by decide +kernel
theorem dX11_come_225 : decode cX11_come 225 = .ok (.getfield 59, 3) := by decide +kernel
theorem dX11_come_228 : decode cX11_come 228 = .ok (.bipush 19, 2) := by decide +kernel
theorem dX11_come_230 : decode cX11_come 230 = .ok (.iaload, 1) := by decide +kernel
theorem dX11_come_231 : decode cX11_come 231 = .ok (.isub, 1) := by decide +kernel
theorem dX11_come_232 : decode cX11_come 232 = .ok (.sipush 255, 3) := by decide +kernel
theorem dX11_come_235 : decode cX11_come 235 = .ok (.iand, 1) := by decide +kernel
theorem dX11_come_236 : decode cX11_come 236 = .ok (.iadd, 1) := by decide +kernel
theorem dX11_come_237 : decode cX11_come 237 = .ok (.iastore, 1) := by decide +kernel
theorem dX11_come_238 : decode cX11_come 238 = .ok (.aload_n 0, 1) := by decide +kernel
theorem dX11_come_239 : decode cX11_come 239 = .ok (.getfield 59, 3) := by decide +kernel
theorem dX11_come_242 : decode cX11_come 242 = .ok (.bipush 18, 2) := by decide +kernel
theorem dX11_come_244 : decode cX11_come 244 = .ok (.iload 5, 2) := by decide +kernel
theorem dX11_come_246 : decode cX11_come 246 = .ok (.iastore, 1) := by decide +kernel
theorem dX11_come_247 : decode cX11_come 247 = .ok (.aload_n 0, 1) := by decide +kernel
theorem dX11_come_248 : decode cX11_come 248 = .ok (.getfield 59, 3) := by decide +kernel
theorem dX11_come_251 : decode cX11_come 251 = .ok (.bipush 19, 2) := by decide +kernel
theorem dX11_come_253 : decode cX11_come 253 = .ok (.iload_n 2, 1) := by decide +kernel
theorem dX11_come_254 : decode cX11_come 254 = .ok (.iastore, 1) := by decide +kernel
theorem dX11_come_255 : decode cX11_come 255 = .ok (.return_, 1) := by decide +kernel
theorem dX11_receive_0 : decode cX11_receive 0 = .ok (.aload_n 0, 1) := by decide +kernel
theorem dX11_receive_1 : decode cX11_receive 1 = .ok (.getfield 59, 3) := by decide +kernel
theorem dX11_receive_4 : decode cX11_receive 4 = .ok (.bipush 31, 2) := by decide +kernel
theorem dX11_receive_6 : decode cX11_receive 6 = .ok (.iaload, 1) := by decide +kernel
theorem dX11_receive_7 : decode cX11_receive 7 = .ok (.istore_n 1, 1) := by decide +kernel
theorem dX11_receive_8 : decode cX11_receive 8 = .ok (.iconst 0, 1) := by decide +kernel
theorem dX11_receive_9 : decode cX11_receive 9 = .ok (.istore_n 2, 1) := by decide +kernel
theorem dX11_receive_10 : decode cX11_receive 10 = .ok (.iconst 0, 1) := by decide +kernel
theorem dX11_receive_11 : decode cX11_receive 11 = .ok (.istore_n 3, 1) := by decide +kernel
theorem dX11_receive_12 : decode cX11_receive 12 = .ok (.iload_n 3, 1) := by decide +kernel
theorem dX11_receive_13 : decode cX11_receive 13 = .ok (.iload_n 1, 1) := by decide +kernel
theorem dX11_receive_14 : decode cX11_receive 14 = .ok (.if_icmp .ge 116, 3) := by decide +kernel
theorem dX11_receive_17 : decode cX11_receive 17 = .ok (.bipush 33, 2) := by decide +kernel
theorem dX11_receive_19 : decode cX11_receive 19 = .ok (.iconst 3, 1) := by decide +kernel
theorem dX11_receive_20 : decode cX11_receive 20 = .ok (.iload_n 3, 1) := by decide +kernel
theorem dX11_receive_21 : decode cX11_receive 21 = .ok (.imul, 1) := by decide +kernel
theorem dX11_receive_22 : decode cX11_receive 22 = .ok (.iadd, 1) := by decide +kernel
theorem dX11_receive_23 : decode cX11_receive 23 = .ok (.istore 4, 2) := by decide +kernel
theorem dX11_receive_25 : decode cX11_receive 25 = .ok (.aload_n 0, 1) := by decide +kernel
theorem dX11_receive_26 : decode cX11_receive 26 = .ok (.getfield 59, 3) := by decide +kernel
theorem dX11_receive_29 : decode cX11_receive 29 = .ok (.iload 4, 2) := by decide +kernel
theorem dX11_receive_31 : decode cX11_receive 31 = .ok (.iaload, 1) := by decide +kernel
theorem dX11_receive_32 : decode cX11_receive 32 = .ok (.istore 5, 2) := by decide +kernel
theorem dX11_receive_34 : decode cX11_receive 34 = .ok (.aload_n 0, 1) := by decide +kernel
theorem dX11_receive_35 : decode cX11_receive 35 = .ok (.getfield 59, 3) := by decide +kernel
theorem dX11_receive_38 : decode cX11_receive 38 = .ok (.iload 4, 2) := by decide +kernel
theorem dX11_receive_40 : decode cX11_receive 40 = .ok (.iconst 1, 1) := by decide +kernel
theorem dX11_receive_41 : decode cX11_receive 41 = .ok (.iadd, 1) := by decide +kernel
theorem dX11_receive_42 : decode cX11_receive 42 = .ok (.iaload, 1) := by decide +kernel
theorem dX11_receive_43 : decode cX11_receive 43 = .ok (.istore 6, 2) := by decide +kernel
theorem dX11_receive_45 : decode cX11_receive 45 = .ok (.aload_n 0, 1) := by decide +kernel
theorem dX11_receive_46 : decode cX11_receive 46 = .ok (.getfield 59, 3) := by decide +kernel
theorem dX11_receive_49 : decode cX11_receive 49 = .ok (.iload 4, 2) := by decide +kernel
theorem dX11_receive_51 : decode cX11_receive 51 = .ok (.iconst 2, 1) := by decide +kernel
theorem dX11_receive_52 : decode cX11_receive 52 = .ok (.iadd, 1) := by decide +kernel
theorem dX11_receive_53 : decode cX11_receive 53 = .ok (.iaload, 1) := by decide +kernel
theorem dX11_receive_54 : decode cX11_receive 54 = .ok (.istore 7, 2) := by decide +kernel
theorem dX11_receive_56 : decode cX11_receive 56 = .ok (.iload 6, 2) := by decide +kernel
theorem dX11_receive_58 : decode cX11_receive 58 = .ok (.aload_n 0, 1) := by decide +kernel
theorem dX11_receive_59 : decode cX11_receive 59 = .ok (.getfield 59, 3) := by decide +kernel
theorem dX11_receive_62 : decode cX11_receive 62 = .ok (.iconst 0, 1) := by decide +kernel
theorem dX11_receive_63 : decode cX11_receive 63 = .ok (.iaload, 1) := by decide +kernel
theorem dX11_receive_64 : decode cX11_receive 64 = .ok (.if_icmp .gt 14, 3) := by decide +kernel
theorem dX11_receive_67 : decode cX11_receive 67 = .ok (.aload_n 0, 1) := by decide +kernel
theorem dX11_receive_68 : decode cX11_receive 68 = .ok (.iload 5, 2) := by decide +kernel
theorem dX11_receive_70 : decode cX11_receive 70 = .ok (.iload 7, 2) := by decide +kernel
theorem dX11_receive_72 : decode cX11_receive 72 = .ok (.invokevirtual 321, 3) := by decide +kernel
theorem dX11_receive_75 : decode cX11_receive 75 = .ok (.goto 49, 3) := by decide +kernel
theorem dX11_receive_78 : decode cX11_receive 78 = .ok (.aload_n 0, 1) := by decide +kernel
theorem dX11_receive_79 : decode cX11_receive 79 = .ok (.getfield 59, 3) := by decide +kernel
theorem dX11_receive_82 : decode cX11_receive 82 = .ok (.bipush 33, 2) := by decide +kernel
theorem dX11_receive_84 : decode cX11_receive 84 = .ok (.iconst 3, 1) := by decide +kernel
theorem dX11_receive_85 : decode cX11_receive 85 = .ok (.iload_n 2, 1) := by decide +kernel
theorem dX11_receive_86 : decode cX11_receive 86 = .ok (.imul, 1) := by decide +kernel
theorem dX11_receive_87 : decode cX11_receive 87 = .ok (.iadd, 1) := by decide +kernel
theorem dX11_receive_88 : decode cX11_receive 88 = .ok (.iload 5, 2) := by decide +kernel
theorem dX11_receive_90 : decode cX11_receive 90 = .ok (.iastore, 1) := by decide +kernel
theorem dX11_receive_91 : decode cX11_receive 91 = .ok (.aload_n 0, 1) := by decide +kernel
theorem dX11_receive_92 : decode cX11_receive 92 = .ok (.getfield 59, 3) := by decide +kernel
theorem dX11_receive_95 : decode cX11_receive 95 = .ok (.bipush 33, 2) := by decide +kernel
theorem dX11_receive_97 : decode cX11_receive 97 = .ok (.iconst 3, 1) := by decide +kernel
theorem dX11_receive_98 : decode cX11_receive 98 = .ok (.iload_n 2, 1) := by decide +kernel
theorem dX11_receive_99 : decode cX11_receive 99 = .ok (.imul, 1) := by decide +kernel
theorem dX11_receive_100 : decode cX11_receive 100 = .ok (.iadd, 1) := by decide +kernel
theorem dX11_receive_101 : decode cX11_receive 101 = .ok (.iconst 1, 1) := by decide +kernel
theorem dX11_receive_102 : decode cX11_receive 102 = .ok (.iadd, 1) := by decide +kernel
theorem dX11_receive_103 : decode cX11_receive 103 = .ok (.iload 6, 2) := by decide +kernel
theorem dX11_receive_105 : decode cX11_receive 105 = .ok (.iastore, 1) := by decide +kernel
theorem dX11_receive_106 : decode cX11_receive 106 = .ok (.aload_n 0, 1) := by decide +kernel
theorem dX11_receive_107 : decode cX11_receive 107 = .ok (.getfield 59, 3) := by decide +kernel
theorem dX11_receive_110 : decode cX11_receive 110 = .ok (.bipush 33, 2) := by decide +kernel
theorem dX11_receive_112 : decode cX11_receive 112 = .ok (.iconst 3, 1) := by decide +kernel
theorem dX11_receive_113 : decode cX11_receive 113 = .ok (.iload_n 2, 1) := by decide +kernel
theorem dX11_receive_114 : decode cX11_receive 114 = .ok (.imul, 1) := by decide +kernel
theorem dX11_receive_115 : decode cX11_receive 115 = .ok (.iadd, 1) := by decide +kernel
theorem dX11_receive_116 : decode cX11_receive 116 = .ok (.iconst 2, 1) := by decide +kernel
theorem dX11_receive_117 : decode cX11_receive 117 = .ok (.iadd, 1) := by decide +kernel
theorem dX11_receive_118 : decode cX11_receive 118 = .ok (.iload 7, 2) := by decide +kernel
theorem dX11_receive_120 : decode cX11_receive 120 = .ok (.iastore, 1) := by decide +kernel
theorem dX11_receive_121 : decode cX11_receive 121 = .ok (.iinc 2 1, 3) := by decide +kernel
theorem dX11_receive_124 : decode cX11_receive 124 = .ok (.iinc 3 1, 3) := by decide +kernel
theorem dX11_receive_127 : decode cX11_receive 127 = .ok (.goto (-115), 3) := by decide +kernel
theorem dX11_receive_130 : decode cX11_receive 130 = .ok (.bipush 33, 2) := by decide +kernel
theorem dX11_receive_132 : decode cX11_receive 132 = .ok (.iconst 3, 1) := by decide +kernel
theorem dX11_receive_133 : decode cX11_receive 133 = .ok (.iload_n 2, 1) := by decide +kernel
theorem dX11_receive_134 : decode cX11_receive 134 = .ok (.imul, 1) := by decide +kernel
theorem dX11_receive_135 : decode cX11_receive 135 = .ok (.iadd, 1) := by decide +kernel
theorem dX11_receive_136 : decode cX11_receive 136 = .ok (.istore_n 3, 1) := by decide +kernel
theorem dX11_receive_137 : decode cX11_receive 137 = .ok (.iload_n 3, 1) := by decide +kernel
theorem dX11_receive_138 : decode cX11_receive 138 = .ok (.bipush 33, 2) := by decide +kernel
theorem dX11_receive_140 : decode cX11_receive 140 = .ok (.iconst 3, 1) := by decide +kernel
theorem dX11_receive_141 : decode cX11_receive 141 = .ok (.iload_n 1, 1) := by decide +kernel
theorem dX11_receive_142 : decode cX11_receive 142 = .ok (.imul, 1) := by decide +kernel
theorem dX11_receive_143 : decode cX11_receive 143 = .ok (.iadd, 1) := by decide +kernel
theorem dX11_receive_144 : decode cX11_receive 144 = .ok (.if_icmp .ge 16, 3) := by decide +kernel
theorem dX11_receive_147 : decode cX11_receive 147 = .ok (.aload_n 0, 1) := by decide +kernel
theorem dX11_receive_148 : decode cX11_receive 148 = .ok (.getfield 59, 3) := by decide +kernel
theorem dX11_receive_151 : decode cX11_receive 151 = .ok (.iload_n 3, 1) := by decide +kernel
theorem dX11_receive_152 : decode cX11_receive 152 = .ok (.iconst 0, 1) := by decide +kernel
theorem dX11_receive_153 : decode cX11_receive 153 = .ok (.iastore, 1) := by decide +kernel
theorem dX11_receive_154 : decode cX11_receive 154 = .ok (.iinc 3 1, 3) := by decide +kernel
theorem dX11_receive_157 : decode cX11_receive 157 = .ok (.goto (-20), 3) := by decide +kernel
theorem dX11_receive_160 : decode cX11_receive 160 = .ok (.aload_n 0, 1) := by decide +kernel
theorem dX11_receive_161 : decode cX11_receive 161 = .ok (.getfield 59, 3) := by decide +kernel
theorem dX11_receive_164 : decode cX11_receive 164 = .ok (.bipush 31, 2) := by decide +kernel
theorem dX11_receive_166 : decode cX11_receive 166 = .ok (.iload_n 2, 1) := by decide +kernel
theorem dX11_receive_167 : decode cX11_receive 167 = .ok (.iastore, 1) := by decide +kernel
theorem dX11_receive_168 : decode cX11_receive 168 = .ok (.return_, 1) := by decide +kernel
theorem dX11_levelNow_0 : decode cX11_levelNow 0 = .ok (.iconst (-1), 1) := by decide +kernel
theorem dX11_levelNow_1 : decode cX11_levelNow 1 = .ok (.istore_n 1, 1) := by decide +kernel
theorem dX11_levelNow_2 : decode cX11_levelNow 2 = .ok (.aload_n 0, 1) := by decide +kernel
theorem dX11_levelNow_3 : decode cX11_levelNow 3 = .ok (.invokevirtual 318, 3) := by decide +kernel
theorem dX11_levelNow_6 : decode cX11_levelNow 6 = .ok (.istore_n 2, 1) := by decide +kernel
theorem dX11_levelNow_7 : decode cX11_levelNow 7 = .ok (.iconst 0, 1) := by decide +kernel
theorem dX11_levelNow_8 : decode cX11_levelNow 8 = .ok (.istore_n 3, 1) := by decide +kernel
theorem dX11_levelNow_9 : decode cX11_levelNow 9 = .ok (.iload_n 3, 1) := by decide +kernel
theorem dX11_levelNow_10 : decode cX11_levelNow 10 = .ok (.bipush 64, 2) := by decide +kernel
theorem dX11_levelNow_12 : decode cX11_levelNow 12 = .ok (.if_icmp .ge 62, 3) := by decide +kernel
theorem dX11_levelNow_15 : decode cX11_levelNow 15 = .ok (.aload_n 0, 1) := by decide +kernel
theorem dX11_levelNow_16 : decode cX11_levelNow 16 = .ok (.getfield 59, 3) := by decide +kernel
theorem dX11_levelNow_19 : decode cX11_levelNow 19 = .ok (.bipush 8, 2) := by decide +kernel
theorem dX11_levelNow_21 : decode cX11_levelNow 21 = .ok (.iaload, 1) := by decide +kernel
theorem dX11_levelNow_22 : decode cX11_levelNow 22 = .ok (.ifCond .eq 52, 3) := by decide +kernel
theorem dX11_levelNow_25 : decode cX11_levelNow 25 = .ok (.aload_n 0, 1) := by decide +kernel
theorem dX11_levelNow_26 : decode cX11_levelNow 26 = .ok (.getfield 59, 3) := by decide +kernel
theorem dX11_levelNow_29 : decode cX11_levelNow 29 = .ok (.sipush 153, 3) := by decide +kernel
theorem dX11_levelNow_32 : decode cX11_levelNow 32 = .ok (.iload_n 3, 1) := by decide +kernel
theorem dX11_levelNow_33 : decode cX11_levelNow 33 = .ok (.iadd, 1) := by decide +kernel
theorem dX11_levelNow_34 : decode cX11_levelNow 34 = .ok (.iaload, 1) := by decide +kernel
theorem dX11_levelNow_35 : decode cX11_levelNow 35 = .ok (.iconst (-1), 1) := by decide +kernel
theorem dX11_levelNow_36 : decode cX11_levelNow 36 = .ok (.if_icmp .eq 32, 3) := by decide +kernel
theorem dX11_levelNow_39 : decode cX11_levelNow 39 = .ok (.aload_n 0, 1) := by decide +kernel
theorem dX11_levelNow_40 : decode cX11_levelNow 40 = .ok (.getfield 59, 3) := by decide +kernel
theorem dX11_levelNow_43 : decode cX11_levelNow 43 = .ok (.sipush 217, 3) := by decide +kernel
theorem dX11_levelNow_46 : decode cX11_levelNow 46 = .ok (.iload_n 3, 1) := by decide +kernel
theorem dX11_levelNow_47 : decode cX11_levelNow 47 = .ok (.iadd, 1) := by decide +kernel
theorem dX11_levelNow_48 : decode cX11_levelNow 48 = .ok (.iaload, 1) := by decide +kernel
theorem dX11_levelNow_49 : decode cX11_levelNow 49 = .ok (.iload_n 2, 1) := by decide +kernel
theorem dX11_levelNow_50 : decode cX11_levelNow 50 = .ok (.if_icmp .lt 18, 3) := by decide +kernel
theorem dX11_levelNow_53 : decode cX11_levelNow 53 = .ok (.iload_n 1, 1) := by decide +kernel
theorem dX11_levelNow_54 : decode cX11_levelNow 54 = .ok (.aload_n 0, 1) := by decide +kernel
theorem dX11_levelNow_55 : decode cX11_levelNow 55 = .ok (.getfield 59, 3) := by decide +kernel
theorem dX11_levelNow_58 : decode cX11_levelNow 58 = .ok (.sipush 217, 3) := by decide +kernel
theorem dX11_levelNow_61 : decode cX11_levelNow 61 = .ok (.iload_n 3, 1) := by decide +kernel
theorem dX11_levelNow_62 : decode cX11_levelNow 62 = .ok (.iadd, 1) := by decide +kernel
theorem dX11_levelNow_63 : decode cX11_levelNow 63 = .ok (.iaload, 1) := by decide +kernel
theorem dX11_levelNow_64 : decode cX11_levelNow 64 = .ok (.invokestatic 130, 3) := by decide +kernel
theorem dX11_levelNow_67 : decode cX11_levelNow 67 = .ok (.istore_n 1, 1) := by decide +kernel
theorem dX11_levelNow_68 : decode cX11_levelNow 68 = .ok (.iinc 3 1, 3) := by decide +kernel
theorem dX11_levelNow_71 : decode cX11_levelNow 71 = .ok (.goto (-62), 3) := by decide +kernel
theorem dX11_levelNow_74 : decode cX11_levelNow 74 = .ok (.iload_n 1, 1) := by decide +kernel
theorem dX11_levelNow_75 : decode cX11_levelNow 75 = .ok (.iconst (-1), 1) := by decide +kernel
theorem dX11_levelNow_76 : decode cX11_levelNow 76 = .ok (.if_icmp .ne 7, 3) := by decide +kernel
theorem dX11_levelNow_79 : decode cX11_levelNow 79 = .ok (.iconst 0, 1) := by decide +kernel
theorem dX11_levelNow_80 : decode cX11_levelNow 80 = .ok (.goto 21, 3) := by decide +kernel
theorem dX11_levelNow_83 : decode cX11_levelNow 83 = .ok (.iload_n 1, 1) := by decide +kernel
theorem dX11_levelNow_84 : decode cX11_levelNow 84 = .ok (.iconst 1, 1) := by decide +kernel
theorem dX11_levelNow_85 : decode cX11_levelNow 85 = .ok (.iadd, 1) := by decide +kernel
theorem dX11_levelNow_86 : decode cX11_levelNow 86 = .ok (.aload_n 0, 1) := by decide +kernel
theorem dX11_levelNow_87 : decode cX11_levelNow 87 = .ok (.getfield 44, 3) := by decide +kernel
theorem dX11_levelNow_90 : decode cX11_levelNow 90 = .ok (.iconst 0, 1) := by decide +kernel
theorem dX11_levelNow_91 : decode cX11_levelNow 91 = .ok (.iaload, 1) := by decide +kernel
theorem dX11_levelNow_92 : decode cX11_levelNow 92 = .ok (.imul, 1) := by decide +kernel
theorem dX11_levelNow_93 : decode cX11_levelNow 93 = .ok (.aload_n 0, 1) := by decide +kernel
theorem dX11_levelNow_94 : decode cX11_levelNow 94 = .ok (.getfield 59, 3) := by decide +kernel
theorem dX11_levelNow_97 : decode cX11_levelNow 97 = .ok (.bipush 14, 2) := by decide +kernel
theorem dX11_levelNow_99 : decode cX11_levelNow 99 = .ok (.iaload, 1) := by decide +kernel
theorem dX11_levelNow_100 : decode cX11_levelNow 100 = .ok (.isub, 1) := by decide +kernel
theorem dX11_levelNow_101 : decode cX11_levelNow 101 = .ok (.ireturn, 1) := by decide +kernel
theorem dX11_steer_0 : decode cX11_steer 0 = .ok (.aload_n 0, 1) := by decide +kernel
theorem dX11_steer_1 : decode cX11_steer 1 = .ok (.invokevirtual 325, 3) := by decide +kernel
theorem dX11_steer_4 : decode cX11_steer 4 = .ok (.istore_n 1, 1) := by decide +kernel
theorem dX11_steer_5 : decode cX11_steer 5 = .ok (.aload_n 0, 1) := by decide +kernel
theorem dX11_steer_6 : decode cX11_steer 6 = .ok (.getfield 59, 3) := by decide +kernel
theorem dX11_steer_9 : decode cX11_steer 9 = .ok (.bipush 8, 2) := by decide +kernel
theorem dX11_steer_11 : decode cX11_steer 11 = .ok (.iaload, 1) := by decide +kernel
theorem dX11_steer_12 : decode cX11_steer 12 = .ok (.iconst 1, 1) := by decide +kernel
theorem dX11_steer_13 : decode cX11_steer 13 = .ok (.if_icmp .ne 54, 3) := by decide +kernel
theorem dX11_steer_16 : decode cX11_steer 16 = .ok (.iload_n 1, 1) := by decide +kernel
theorem dX11_steer_17 : decode cX11_steer 17 = .ok (.aload_n 0, 1) := by decide +kernel
theorem dX11_steer_18 : decode cX11_steer 18 = .ok (.getfield 59, 3) := by decide +kernel
theorem dX11_steer_21 : decode cX11_steer 21 = .ok (.bipush 29, 2) := by decide +kernel
theorem dX11_steer_23 : decode cX11_steer 23 = .ok (.iaload, 1) := by decide +kernel
theorem dX11_steer_24 : decode cX11_steer 24 = .ok (.if_icmp .lt 43, 3) := by decide +kernel
theorem dX11_steer_27 : decode cX11_steer 27 = .ok (.aload_n 0, 1) := by decide +kernel
theorem dX11_steer_28 : decode cX11_steer 28 = .ok (.getfield 59, 3) := by decide +kernel
theorem dX11_steer_31 : decode cX11_steer 31 = .ok (.bipush 8, 2) := by decide +kernel
theorem dX11_steer_33 : decode cX11_steer 33 = .ok (.iconst 2, 1) := by decide +kernel
theorem dX11_steer_34 : decode cX11_steer 34 = .ok (.iastore, 1) := by decide +kernel
theorem dX11_steer_35 : decode cX11_steer 35 = .ok (.aload_n 0, 1) := by decide +kernel
theorem dX11_steer_36 : decode cX11_steer 36 = .ok (.getfield 59, 3) := by decide +kernel
theorem dX11_steer_39 : decode cX11_steer 39 = .ok (.bipush 23, 2) := by decide +kernel
theorem dX11_steer_41 : decode cX11_steer 41 = .ok (.iconst 0, 1) := by decide +kernel
theorem dX11_steer_42 : decode cX11_steer 42 = .ok (.iastore, 1) := by decide +kernel
theorem dX11_steer_43 : decode cX11_steer 43 = .ok (.aload_n 0, 1) := by decide +kernel
theorem dX11_steer_44 : decode cX11_steer 44 = .ok (.getfield 59, 3) := by decide +kernel
theorem dX11_steer_47 : decode cX11_steer 47 = .ok (.bipush 10, 2) := by decide +kernel
theorem dX11_steer_49 : decode cX11_steer 49 = .ok (.iconst 0, 1) := by decide +kernel
theorem dX11_steer_50 : decode cX11_steer 50 = .ok (.iastore, 1) := by decide +kernel
theorem dX11_steer_51 : decode cX11_steer 51 = .ok (.aload_n 0, 1) := by decide +kernel
theorem dX11_steer_52 : decode cX11_steer 52 = .ok (.getfield 59, 3) := by decide +kernel
theorem dX11_steer_55 : decode cX11_steer 55 = .ok (.bipush 9, 2) := by decide +kernel
theorem dX11_steer_57 : decode cX11_steer 57 = .ok (.iconst 0, 1) := by decide +kernel
theorem dX11_steer_58 : decode cX11_steer 58 = .ok (.iastore, 1) := by decide +kernel
theorem dX11_steer_59 : decode cX11_steer 59 = .ok (.aload_n 0, 1) := by decide +kernel
theorem dX11_steer_60 : decode cX11_steer 60 = .ok (.getfield 59, 3) := by decide +kernel
theorem dX11_steer_63 : decode cX11_steer 63 = .ok (.bipush 11, 2) := by decide +kernel
theorem dX11_steer_65 : decode cX11_steer 65 = .ok (.iconst 0, 1) := by decide +kernel
theorem dX11_steer_66 : decode cX11_steer 66 = .ok (.iastore, 1) := by decide +kernel
theorem dX11_steer_67 : decode cX11_steer 67 = .ok (.aload_n 0, 1) := by decide +kernel
theorem dX11_steer_68 : decode cX11_steer 68 = .ok (.getfield 59, 3) := by decide +kernel
theorem dX11_steer_71 : decode cX11_steer 71 = .ok (.bipush 8, 2) := by decide +kernel
theorem dX11_steer_73 : decode cX11_steer 73 = .ok (.iaload, 1) := by decide +kernel
theorem dX11_steer_74 : decode cX11_steer 74 = .ok (.iconst 2, 1) := by decide +kernel
theorem dX11_steer_75 : decode cX11_steer 75 = .ok (.if_icmp .ne 19, 3) := by decide +kernel
theorem dX11_steer_78 : decode cX11_steer 78 = .ok (.aload_n 0, 1) := by decide +kernel
theorem dX11_steer_79 : decode cX11_steer 79 = .ok (.getfield 59, 3) := by decide +kernel
theorem dX11_steer_82 : decode cX11_steer 82 = .ok (.iconst 0, 1) := by decide +kernel
theorem dX11_steer_83 : decode cX11_steer 83 = .ok (.iaload, 1) := by decide +kernel
theorem dX11_steer_84 : decode cX11_steer 84 = .ok (.aload_n 0, 1) := by decide +kernel
theorem dX11_steer_85 : decode cX11_steer 85 = .ok (.getfield 44, 3) := by decide +kernel
theorem dX11_steer_88 : decode cX11_steer 88 = .ok (.iconst 4, 1) := by decide +kernel
theorem dX11_steer_89 : decode cX11_steer 89 = .ok (.iaload, 1) := by decide +kernel
theorem dX11_steer_90 : decode cX11_steer 90 = .ok (.irem, 1) := by decide +kernel
theorem dX11_steer_91 : decode cX11_steer 91 = .ok (.ifCond .eq 4, 3) := by decide +kernel
theorem dX11_steer_94 : decode cX11_steer 94 = .ok (.return_, 1) := by decide +kernel
theorem dX11_steer_95 : decode cX11_steer 95 = .ok (.iload_n 1, 1) := by decide +kernel
theorem dX11_steer_96 : decode cX11_steer 96 = .ok (.aload_n 0, 1) := by decide +kernel
theorem dX11_steer_97 : decode cX11_steer 97 = .ok (.getfield 59, 3) := by decide +kernel
theorem dX11_steer_100 : decode cX11_steer 100 = .ok (.bipush 29, 2) := by decide +kernel
theorem dX11_steer_102 : decode cX11_steer 102 = .ok (.iaload, 1) := by decide +kernel
theorem dX11_steer_103 : decode cX11_steer 103 = .ok (.isub, 1) := by decide +kernel
theorem dX11_steer_104 : decode cX11_steer 104 = .ok (.istore_n 2, 1) := by decide +kernel
theorem dX11_steer_105 : decode cX11_steer 105 = .ok (.aload_n 0, 1) := by decide +kernel
theorem dX11_steer_106 : decode cX11_steer 106 = .ok (.getfield 59, 3) := by decide +kernel
theorem dX11_steer_109 : decode cX11_steer 109 = .ok (.bipush 10, 2) := by decide +kernel
theorem dX11_steer_111 : decode cX11_steer 111 = .ok (.aload_n 0, 1) := by decide +kernel
theorem dX11_steer_112 : decode cX11_steer 112 = .ok (.getfield 59, 3) := by decide +kernel
theorem dX11_steer_115 : decode cX11_steer 115 = .ok (.bipush 10, 2) := by decide +kernel
theorem dX11_steer_117 : decode cX11_steer 117 = .ok (.iaload, 1) := by decide +kernel
theorem dX11_steer_118 : decode cX11_steer 118 = .ok (.aload_n 0, 1) := by decide +kernel
theorem dX11_steer_119 : decode cX11_steer 119 = .ok (.getfield 269, 3) := by decide +kernel
theorem dX11_steer_122 : decode cX11_steer 122 = .ok (.iload_n 2, 1) := by decide +kernel
theorem dX11_steer_123 : decode cX11_steer 123 = .ok (.imul, 1) := by decide +kernel
theorem dX11_steer_124 : decode cX11_steer 124 = .ok (.iadd, 1) := by decide +kernel
theorem dX11_steer_125 : decode cX11_steer 125 = .ok (.sipush (-3200), 3) := by decide +kernel
theorem dX11_steer_128 : decode cX11_steer 128 = .ok (.sipush 3200, 3) := by decide +kernel
theorem dX11_steer_131 : decode cX11_steer 131 = .ok (.invokestatic 308, 3) := by decide +kernel
theorem dX11_steer_134 : decode cX11_steer 134 = .ok (.iastore, 1) := by decide +kernel
theorem dX11_steer_135 : decode cX11_steer 135 = .ok (.aload_n 0, 1) := by decide +kernel
theorem dX11_steer_136 : decode cX11_steer 136 = .ok (.getfield 59, 3) := by decide +kernel
theorem dX11_steer_139 : decode cX11_steer 139 = .ok (.bipush 9, 2) := by decide +kernel
theorem dX11_steer_141 : decode cX11_steer 141 = .ok (.aload_n 0, 1) := by decide +kernel
theorem dX11_steer_142 : decode cX11_steer 142 = .ok (.getfield 266, 3) := by decide +kernel
theorem dX11_steer_145 : decode cX11_steer 145 = .ok (.iload_n 2, 1) := by decide +kernel
theorem dX11_steer_146 : decode cX11_steer 146 = .ok (.imul, 1) := by decide +kernel
theorem dX11_steer_147 : decode cX11_steer 147 = .ok (.aload_n 0, 1) := by decide +kernel
theorem dX11_steer_148 : decode cX11_steer 148 = .ok (.getfield 59, 3) := by decide +kernel
theorem dX11_steer_151 : decode cX11_steer 151 = .ok (.bipush 10, 2) := by decide +kernel
theorem dX11_steer_153 : decode cX11_steer 153 = .ok (.iaload, 1) := by decide +kernel
theorem dX11_steer_154 : decode cX11_steer 154 = .ok (.iadd, 1) := by decide +kernel
theorem dX11_steer_155 : decode cX11_steer 155 = .ok (.bipush 16, 2) := by decide +kernel
theorem dX11_steer_157 : decode cX11_steer 157 = .ok (.idiv, 1) := by decide +kernel
theorem dX11_steer_158 : decode cX11_steer 158 = .ok (.sipush (-200), 3) := by decide +kernel
theorem dX11_steer_161 : decode cX11_steer 161 = .ok (.sipush 200, 3) := by decide +kernel
theorem dX11_steer_164 : decode cX11_steer 164 = .ok (.invokestatic 308, 3) := by decide +kernel
theorem dX11_steer_167 : decode cX11_steer 167 = .ok (.iastore, 1) := by decide +kernel
theorem dX11_steer_168 : decode cX11_steer 168 = .ok (.aload_n 0, 1) := by decide +kernel
theorem dX11_steer_169 : decode cX11_steer 169 = .ok (.getfield 59, 3) := by decide +kernel
theorem dX11_steer_172 : decode cX11_steer 172 = .ok (.sipush 281, 3) := by decide +kernel
theorem dX11_steer_175 : decode cX11_steer 175 = .ok (.aload_n 0, 1) := by decide +kernel
theorem dX11_steer_176 : decode cX11_steer 176 = .ok (.getfield 59, 3) := by decide +kernel
theorem dX11_steer_179 : decode cX11_steer 179 = .ok (.bipush 32, 2) := by decide +kernel
theorem dX11_steer_181 : decode cX11_steer 181 = .ok (.iaload, 1) := by decide +kernel
theorem dX11_steer_182 : decode cX11_steer 182 = .ok (.sipush 128, 3) := by decide +kernel
theorem dX11_steer_185 : decode cX11_steer 185 = .ok (.irem, 1) := by decide +kernel
theorem dX11_steer_186 : decode cX11_steer 186 = .ok (.iadd, 1) := by decide +kernel
theorem dX11_steer_187 : decode cX11_steer 187 = .ok (.aload_n 0, 1) := by decide +kernel
theorem dX11_steer_188 : decode cX11_steer 188 = .ok (.getfield 59, 3) := by decide +kernel
theorem dX11_steer_191 : decode cX11_steer 191 = .ok (.bipush 11, 2) := by decide +kernel
theorem dX11_steer_193 : decode cX11_steer 193 = .ok (.iaload, 1) := by decide +kernel
theorem dX11_steer_194 : decode cX11_steer 194 = .ok (.iastore, 1) := by decide +kernel
theorem dX11_steer_195 : decode cX11_steer 195 = .ok (.aload_n 0, 1) := by decide +kernel
theorem dX11_steer_196 : decode cX11_steer 196 = .ok (.getfield 59, 3) := by decide +kernel
theorem dX11_steer_199 : decode cX11_steer 199 = .ok (.bipush 32, 2) := by decide +kernel
theorem dX11_steer_201 : decode cX11_steer 201 = .ok (.dup2, 1) := by decide +kernel
theorem dX11_steer_202 : decode cX11_steer 202 = .ok (.iaload, 1) := by decide +kernel
theorem dX11_steer_203 : decode cX11_steer 203 = .ok (.iconst 1, 1) := by decide +kernel
theorem dX11_steer_204 : decode cX11_steer 204 = .ok (.iadd, 1) := by decide +kernel
theorem dX11_steer_205 : decode cX11_steer 205 = .ok (.iastore, 1) := by decide +kernel
theorem dX11_steer_206 : decode cX11_steer 206 = .ok (.return_, 1) := by decide +kernel
theorem dX11_octetOf_0 : decode cX11_octetOf 0 = .ok (.aload_n 0, 1) := by decide +kernel
theorem dX11_octetOf_1 : decode cX11_octetOf 1 = .ok (.getfield 48, 3) := by decide +kernel
theorem dX11_octetOf_4 : decode cX11_octetOf 4 = .ok (.iload_n 1, 1) := by decide +kernel
theorem dX11_octetOf_5 : decode cX11_octetOf 5 = .ok (.aload_n 0, 1) := by decide +kernel
theorem dX11_octetOf_6 : decode cX11_octetOf 6 = .ok (.getfield 44, 3) := by decide +kernel
theorem dX11_octetOf_9 : decode cX11_octetOf 9 = .ok (.bipush 7, 2) := by decide +kernel
theorem dX11_octetOf_11 : decode cX11_octetOf 11 = .ok (.iaload, 1) := by decide +kernel
theorem dX11_octetOf_12 : decode cX11_octetOf 12 = .ok (.irem, 1) := by decide +kernel
theorem dX11_octetOf_13 : decode cX11_octetOf 13 = .ok (.iaload, 1) := by decide +kernel
theorem dX11_octetOf_14 : decode cX11_octetOf 14 = .ok (.iload_n 1, 1) := by decide +kernel
theorem dX11_octetOf_15 : decode cX11_octetOf 15 = .ok (.iadd, 1) := by decide +kernel
theorem dX11_octetOf_16 : decode cX11_octetOf 16 = .ok (.sipush 255, 3) := by decide +kernel
theorem dX11_octetOf_19 : decode cX11_octetOf 19 = .ok (.iand, 1) := by decide +kernel
theorem dX11_octetOf_20 : decode cX11_octetOf 20 = .ok (.ireturn, 1) := by decide +kernel
theorem dX11_playedBack_0 : decode cX11_playedBack 0 = .ok (.aload_n 0, 1) := by decide +kernel
theorem dX11_playedBack_1 : decode cX11_playedBack 1 = .ok (.getfield 59, 3) := by decide +kernel
theorem dX11_playedBack_4 : decode cX11_playedBack 4 = .ok (.bipush 6, 2) := by decide +kernel
theorem dX11_playedBack_6 : decode cX11_playedBack 6 = .ok (.iaload, 1) := by decide +kernel
theorem dX11_playedBack_7 : decode cX11_playedBack 7 = .ok (.iload_n 1, 1) := by decide +kernel
theorem dX11_playedBack_8 : decode cX11_playedBack 8 = .ok (.if_icmp .ge 8, 3) := by decide +kernel
theorem dX11_playedBack_11 : decode cX11_playedBack 11 = .ok (.bipush 126, 2) := by decide +kernel
theorem dX11_playedBack_13 : decode cX11_playedBack 13 = .ok (.goto 25, 3) := by decide +kernel
theorem dX11_playedBack_16 : decode cX11_playedBack 16 = .ok (.aload_n 0, 1) := by decide +kernel
theorem dX11_playedBack_17 : decode cX11_playedBack 17 = .ok (.getfield 59, 3) := by decide +kernel
theorem dX11_playedBack_20 : decode cX11_playedBack 20 = .ok (.sipush 409, 3) := by decide +kernel
theorem dX11_playedBack_23 : decode cX11_playedBack 23 = .ok (.aload_n 0, 1) := by decide +kernel
theorem dX11_playedBack_24 : decode cX11_playedBack 24 = .ok (.getfield 59, 3) := by decide +kernel
theorem dX11_playedBack_27 : decode cX11_playedBack 27 = .ok (.bipush 6, 2) := by decide +kernel
theorem dX11_playedBack_29 : decode cX11_playedBack 29 = .ok (.iaload, 1) := by decide +kernel
theorem dX11_playedBack_30 : decode cX11_playedBack 30 = .ok (.iload_n 1, 1) := by decide +kernel
theorem dX11_playedBack_31 : decode cX11_playedBack 31 = .ok (.isub, 1) := by decide +kernel
theorem dX11_playedBack_32 : decode cX11_playedBack 32 = .ok (.sipush 128, 3) := by decide +kernel
theorem dX11_playedBack_35 : decode cX11_playedBack 35 = .ok (.irem, 1) := by decide +kernel
theorem dX11_playedBack_36 : decode cX11_playedBack 36 = .ok (.iadd, 1) := by decide +kernel
theorem dX11_playedBack_37 : decode cX11_playedBack 37 = .ok (.iaload, 1) := by decide +kernel
theorem dX11_playedBack_38 : decode cX11_playedBack 38 = .ok (.ireturn, 1) := by decide +kernel
theorem dX11_filler_0 : decode cX11_filler 0 = .ok (.aload_n 0, 1) := by decide +kernel
theorem dX11_filler_1 : decode cX11_filler 1 = .ok (.getfield 59, 3) := by decide +kernel
theorem dX11_filler_4 : decode cX11_filler 4 = .ok (.bipush 28, 2) := by decide +kernel
theorem dX11_filler_6 : decode cX11_filler 6 = .ok (.iaload, 1) := by decide +kernel
theorem dX11_filler_7 : decode cX11_filler 7 = .ok (.iconst 1, 1) := by decide +kernel
theorem dX11_filler_8 : decode cX11_filler 8 = .ok (.if_icmp .ne 6, 3) := by decide +kernel
theorem dX11_filler_11 : decode cX11_filler 11 = .ok (.bipush 126, 2) := by decide +kernel
theorem dX11_filler_13 : decode cX11_filler 13 = .ok (.ireturn, 1) := by decide +kernel
theorem dX11_filler_14 : decode cX11_filler 14 = .ok (.aload_n 0, 1) := by decide +kernel
theorem dX11_filler_15 : decode cX11_filler 15 = .ok (.aload_n 0, 1) := by decide +kernel
theorem dX11_filler_16 : decode cX11_filler 16 = .ok (.getfield 59, 3) := by decide +kernel
theorem dX11_filler_19 : decode cX11_filler 19 = .ok (.bipush 28, 2) := by decide +kernel
theorem dX11_filler_21 : decode cX11_filler 21 = .ok (.iaload, 1) := by decide +kernel
theorem dX11_filler_22 : decode cX11_filler 22 = .ok (.ifCond .ne 7, 3) := by decide +kernel
theorem dX11_filler_25 : decode cX11_filler 25 = .ok (.iconst 1, 1) := by decide +kernel
theorem dX11_filler_26 : decode cX11_filler 26 = .ok (.goto 10, 3) := by decide +kernel
theorem dX11_filler_29 : decode cX11_filler 29 = .ok (.aload_n 0, 1) := by decide +kernel
theorem dX11_filler_30 : decode cX11_filler 30 = .ok (.getfield 44, 3) := by decide +kernel
theorem dX11_filler_33 : decode cX11_filler 33 = .ok (.bipush 6, 2) := by decide +kernel
theorem dX11_filler_35 : decode cX11_filler 35 = .ok (.iaload, 1) := by decide +kernel
theorem dX11_filler_36 : decode cX11_filler 36 = .ok (.invokevirtual 328, 3) := by decide +kernel
theorem dX11_filler_39 : decode cX11_filler 39 = .ok (.ireturn, 1) := by decide +kernel
theorem dX11_play_0 : decode cX11_play 0 = .ok (.aload_n 0, 1) := by decide +kernel
theorem dX11_play_1 : decode cX11_play 1 = .ok (.invokevirtual 318, 3) := by decide +kernel
theorem dX11_play_4 : decode cX11_play 4 = .ok (.bipush 64, 2) := by decide +kernel
theorem dX11_play_6 : decode cX11_play 6 = .ok (.irem, 1) := by decide +kernel
theorem dX11_play_7 : decode cX11_play 7 = .ok (.istore_n 1, 1) := by decide +kernel
theorem dX11_play_8 : decode cX11_play 8 = .ok (.aload_n 0, 1) := by decide +kernel
theorem dX11_play_9 : decode cX11_play 9 = .ok (.getfield 59, 3) := by decide +kernel
theorem dX11_play_12 : decode cX11_play 12 = .ok (.sipush 153, 3) := by decide +kernel
theorem dX11_play_15 : decode cX11_play 15 = .ok (.iload_n 1, 1) := by decide +kernel
theorem dX11_play_16 : decode cX11_play 16 = .ok (.iadd, 1) := by decide +kernel
theorem dX11_play_17 : decode cX11_play 17 = .ok (.iaload, 1) := by decide +kernel
theorem dX11_play_18 : decode cX11_play 18 = .ok (.iconst (-1), 1) := by decide +kernel
theorem dX11_play_19 : decode cX11_play 19 = .ok (.if_icmp .eq 24, 3) := by decide +kernel
theorem dX11_play_22 : decode cX11_play 22 = .ok (.aload_n 0, 1) := by decide +kernel
theorem dX11_play_23 : decode cX11_play 23 = .ok (.getfield 59, 3) := by decide +kernel
theorem dX11_play_26 : decode cX11_play 26 = .ok (.sipush 217, 3) := by decide +kernel
theorem dX11_play_29 : decode cX11_play 29 = .ok (.iload_n 1, 1) := by decide +kernel
theorem dX11_play_30 : decode cX11_play 30 = .ok (.iadd, 1) := by decide +kernel
theorem dX11_play_31 : decode cX11_play 31 = .ok (.iaload, 1) := by decide +kernel
theorem dX11_play_32 : decode cX11_play 32 = .ok (.aload_n 0, 1) := by decide +kernel
theorem dX11_play_33 : decode cX11_play 33 = .ok (.invokevirtual 318, 3) := by decide +kernel
theorem dX11_play_36 : decode cX11_play 36 = .ok (.if_icmp .ne 7, 3) := by decide +kernel
theorem dX11_play_39 : decode cX11_play 39 = .ok (.iconst 1, 1) := by decide +kernel
theorem dX11_play_40 : decode cX11_play 40 = .ok (.goto 4, 3) := by decide +kernel
theorem dX11_play_43 : decode cX11_play 43 = .ok (.iconst 0, 1) := by decide +kernel
theorem dX11_play_44 : decode cX11_play 44 = .ok (.istore_n 2, 1) := by decide +kernel
theorem dX11_play_45 : decode cX11_play 45 = .ok (.iload_n 2, 1) := by decide +kernel
theorem dX11_play_46 : decode cX11_play 46 = .ok (.ifCond .eq 42, 3) := by decide +kernel
theorem dX11_play_49 : decode cX11_play 49 = .ok (.aload_n 0, 1) := by decide +kernel
theorem dX11_play_50 : decode cX11_play 50 = .ok (.aload_n 0, 1) := by decide +kernel
theorem dX11_play_51 : decode cX11_play 51 = .ok (.getfield 59, 3) := by decide +kernel
theorem dX11_play_54 : decode cX11_play 54 = .ok (.sipush 153, 3) := by decide +kernel
theorem dX11_play_57 : decode cX11_play 57 = .ok (.iload_n 1, 1) := by decide +kernel
theorem dX11_play_58 : decode cX11_play 58 = .ok (.iadd, 1) := by decide +kernel
theorem dX11_play_59 : decode cX11_play 59 = .ok (.iaload, 1) := by decide +kernel
theorem dX11_play_60 : decode cX11_play 60 = .ok (.aload_n 0, 1) := by decide +kernel
theorem dX11_play_61 : decode cX11_play 61 = .ok (.getfield 44, 3) := by decide +kernel
theorem dX11_play_64 : decode cX11_play 64 = .ok (.iconst 0, 1) := by decide +kernel
theorem dX11_play_65 : decode cX11_play 65 = .ok (.iaload, 1) := by decide +kernel
theorem dX11_play_66 : decode cX11_play 66 = .ok (.imul, 1) := by decide +kernel
theorem dX11_play_67 : decode cX11_play 67 = .ok (.aload_n 0, 1) := by decide +kernel
theorem dX11_play_68 : decode cX11_play 68 = .ok (.getfield 59, 3) := by decide +kernel
theorem dX11_play_71 : decode cX11_play 71 = .ok (.bipush 14, 2) := by decide +kernel
theorem dX11_play_73 : decode cX11_play 73 = .ok (.iaload, 1) := by decide +kernel
theorem dX11_play_74 : decode cX11_play 74 = .ok (.aload_n 0, 1) := by decide +kernel
theorem dX11_play_75 : decode cX11_play 75 = .ok (.getfield 44, 3) := by decide +kernel
theorem dX11_play_78 : decode cX11_play 78 = .ok (.iconst 0, 1) := by decide +kernel
theorem dX11_play_79 : decode cX11_play 79 = .ok (.iaload, 1) := by decide +kernel
theorem dX11_play_80 : decode cX11_play 80 = .ok (.irem, 1) := by decide +kernel
theorem dX11_play_81 : decode cX11_play 81 = .ok (.iadd, 1) := by decide +kernel
theorem dX11_play_82 : decode cX11_play 82 = .ok (.invokevirtual 331, 3) := by decide +kernel
theorem dX11_play_85 : decode cX11_play 85 = .ok (.goto 7, 3) := by decide +kernel
theorem dX11_play_88 : decode cX11_play 88 = .ok (.aload_n 0, 1) := by decide +kernel
theorem dX11_play_89 : decode cX11_play 89 = .ok (.invokevirtual 334, 3) := by decide +kernel
theorem dX11_play_92 : decode cX11_play 92 = .ok (.istore_n 3, 1) := by decide +kernel
theorem dX11_play_93 : decode cX11_play 93 = .ok (.aload_n 0, 1) := by decide +kernel
theorem dX11_play_94 : decode cX11_play 94 = .ok (.aload_n 0, 1) := by decide +kernel
theorem dX11_play_95 : decode cX11_play 95 = .ok (.getfield 59, 3) := by decide +kernel
theorem dX11_play_98 : decode cX11_play 98 = .ok (.bipush 16, 2) := by decide +kernel
theorem dX11_play_100 : decode cX11_play 100 = .ok (.iaload, 1) := by decide +kernel
theorem dX11_play_101 : decode cX11_play 101 = .ok (.aload_n 0, 1) := by decide +kernel
theorem dX11_play_102 : decode cX11_play 102 = .ok (.getfield 44, 3) := by decide +kernel
theorem dX11_play_105 : decode cX11_play 105 = .ok (.iconst 0, 1) := by decide +kernel
theorem dX11_play_106 : decode cX11_play 106 = .ok (.iaload, 1) := by decide +kernel
theorem dX11_play_107 : decode cX11_play 107 = .ok (.imul, 1) := by decide +kernel
theorem dX11_play_108 : decode cX11_play 108 = .ok (.aload_n 0, 1) := by decide +kernel
theorem dX11_play_109 : decode cX11_play 109 = .ok (.getfield 59, 3) := by decide +kernel
theorem dX11_play_112 : decode cX11_play 112 = .ok (.bipush 14, 2) := by decide +kernel
theorem dX11_play_114 : decode cX11_play 114 = .ok (.iaload, 1) := by decide +kernel
theorem dX11_play_115 : decode cX11_play 115 = .ok (.iadd, 1) := by decide +kernel
theorem dX11_play_116 : decode cX11_play 116 = .ok (.aload_n 0, 1) := by decide +kernel
theorem dX11_play_117 : decode cX11_play 117 = .ok (.getfield 59, 3) := by decide +kernel
theorem dX11_play_120 : decode cX11_play 120 = .ok (.bipush 15, 2) := by decide +kernel
theorem dX11_play_122 : decode cX11_play 122 = .ok (.iaload, 1) := by decide +kernel
theorem dX11_play_123 : decode cX11_play 123 = .ok (.isub, 1) := by decide +kernel
theorem dX11_play_124 : decode cX11_play 124 = .ok (.invokevirtual 331, 3) := by decide +kernel
theorem dX11_play_127 : decode cX11_play 127 = .ok (.istore 4, 2) := by decide +kernel
theorem dX11_play_129 : decode cX11_play 129 = .ok (.aload_n 0, 1) := by decide +kernel
theorem dX11_play_130 : decode cX11_play 130 = .ok (.getfield 59, 3) := by decide +kernel
theorem dX11_play_133 : decode cX11_play 133 = .ok (.bipush 13, 2) := by decide +kernel
theorem dX11_play_135 : decode cX11_play 135 = .ok (.dup2, 1) := by decide +kernel
theorem dX11_play_136 : decode cX11_play 136 = .ok (.iaload, 1) := by decide +kernel
theorem dX11_play_137 : decode cX11_play 137 = .ok (.iload_n 2, 1) := by decide +kernel
theorem dX11_play_138 : decode cX11_play 138 = .ok (.ifCond .eq 13, 3) := by decide +kernel
theorem dX11_play_141 : decode cX11_play 141 = .ok (.iload_n 3, 1) := by decide +kernel
theorem dX11_play_142 : decode cX11_play 142 = .ok (.iload 4, 2) := by decide +kernel
theorem dX11_play_144 : decode cX11_play 144 = .ok (.if_icmp .eq 7, 3) := by decide +kernel
theorem dX11_play_147 : decode cX11_play 147 = .ok (.iconst 1, 1) := by decide +kernel
theorem dX11_play_148 : decode cX11_play 148 = .ok (.goto 4, 3) := by decide +kernel
theorem dX11_play_151 : decode cX11_play 151 = .ok (.iconst 0, 1) := by decide +kernel
theorem dX11_play_152 : decode cX11_play 152 = .ok (.iadd, 1) := by decide +kernel
theorem dX11_play_153 : decode cX11_play 153 = .ok (.iastore, 1) := by decide +kernel
theorem dX11_play_154 : decode cX11_play 154 = .ok (.aload_n 0, 1) := by decide +kernel
theorem dX11_play_155 : decode cX11_play 155 = .ok (.getfield 59, 3) := by decide +kernel
theorem dX11_play_158 : decode cX11_play 158 = .ok (.bipush 7, 2) := by decide +kernel
theorem dX11_play_160 : decode cX11_play 160 = .ok (.dup2, 1) := by decide +kernel
theorem dX11_play_161 : decode cX11_play 161 = .ok (.iaload, 1) := by decide +kernel
theorem dX11_play_162 : decode cX11_play 162 = .ok (.iload_n 2, 1) := by decide +kernel
theorem dX11_play_163 : decode cX11_play 163 = .ok (.ifCond .eq 7, 3) := by decide +kernel
theorem dX11_play_166 : decode cX11_play 166 = .ok (.iconst 0, 1) := by decide +kernel
theorem dX11_play_167 : decode cX11_play 167 = .ok (.goto 4, 3) := by decide +kernel
theorem dX11_play_170 : decode cX11_play 170 = .ok (.iconst 1, 1) := by decide +kernel
theorem dX11_play_171 : decode cX11_play 171 = .ok (.iadd, 1) := by decide +kernel
theorem dX11_play_172 : decode cX11_play 172 = .ok (.iastore, 1) := by decide +kernel
theorem dX11_play_173 : decode cX11_play 173 = .ok (.aload_n 0, 1) := by decide +kernel
theorem dX11_play_174 : decode cX11_play 174 = .ok (.getfield 59, 3) := by decide +kernel
theorem dX11_play_177 : decode cX11_play 177 = .ok (.bipush 30, 2) := by decide +kernel
theorem dX11_play_179 : decode cX11_play 179 = .ok (.iload_n 2, 1) := by decide +kernel
theorem dX11_play_180 : decode cX11_play 180 = .ok (.ifCond .eq 7, 3) := by decide +kernel
theorem dX11_play_183 : decode cX11_play 183 = .ok (.iconst 0, 1) := by decide +kernel
theorem dX11_play_184 : decode cX11_play 184 = .ok (.goto 12, 3) := by decide +kernel
theorem dX11_play_187 : decode cX11_play 187 = .ok (.aload_n 0, 1) := by decide +kernel
theorem dX11_play_188 : decode cX11_play 188 = .ok (.getfield 59, 3) := by decide +kernel
theorem dX11_play_191 : decode cX11_play 191 = .ok (.bipush 30, 2) := by decide +kernel
theorem dX11_play_193 : decode cX11_play 193 = .ok (.iaload, 1) := by decide +kernel
theorem dX11_play_194 : decode cX11_play 194 = .ok (.iconst 1, 1) := by decide +kernel
theorem dX11_play_195 : decode cX11_play 195 = .ok (.iadd, 1) := by decide +kernel
theorem dX11_play_196 : decode cX11_play 196 = .ok (.iastore, 1) := by decide +kernel
theorem dX11_play_197 : decode cX11_play 197 = .ok (.aload_n 0, 1) := by decide +kernel
theorem dX11_play_198 : decode cX11_play 198 = .ok (.getfield 59, 3) := by decide +kernel
theorem dX11_play_201 : decode cX11_play 201 = .ok (.sipush 409, 3) := by decide +kernel
theorem dX11_play_204 : decode cX11_play 204 = .ok (.aload_n 0, 1) := by decide +kernel
theorem dX11_play_205 : decode cX11_play 205 = .ok (.getfield 59, 3) := by decide +kernel
theorem dX11_play_208 : decode cX11_play 208 = .ok (.bipush 6, 2) := by decide +kernel
theorem dX11_play_210 : decode cX11_play 210 = .ok (.iaload, 1) := by decide +kernel
theorem dX11_play_211 : decode cX11_play 211 = .ok (.sipush 128, 3) := by decide +kernel
theorem dX11_play_214 : decode cX11_play 214 = .ok (.irem, 1) := by decide +kernel
theorem dX11_play_215 : decode cX11_play 215 = .ok (.iadd, 1) := by decide +kernel
theorem dX11_play_216 : decode cX11_play 216 = .ok (.iload_n 3, 1) := by decide +kernel
theorem dX11_play_217 : decode cX11_play 217 = .ok (.iastore, 1) := by decide +kernel
theorem dX11_play_218 : decode cX11_play 218 = .ok (.aload_n 0, 1) := by decide +kernel
theorem dX11_play_219 : decode cX11_play 219 = .ok (.getfield 59, 3) := by decide +kernel
theorem dX11_play_222 : decode cX11_play 222 = .ok (.sipush 537, 3) := by decide +kernel
theorem dX11_play_225 : decode cX11_play 225 = .ok (.aload_n 0, 1) := by decide +kernel
theorem dX11_play_226 : decode cX11_play 226 = .ok (.getfield 59, 3) := by decide +kernel
theorem dX11_play_229 : decode cX11_play 229 = .ok (.bipush 6, 2) := by decide +kernel
theorem dX11_play_231 : decode cX11_play 231 = .ok (.iaload, 1) := by decide +kernel
theorem dX11_play_232 : decode cX11_play 232 = .ok (.sipush 128, 3) := by decide +kernel
theorem dX11_play_235 : decode cX11_play 235 = .ok (.irem, 1) := by decide +kernel
theorem dX11_play_236 : decode cX11_play 236 = .ok (.iadd, 1) := by decide +kernel
theorem dX11_play_237 : decode cX11_play 237 = .ok (.iload_n 2, 1) := by decide +kernel
theorem dX11_play_238 : decode cX11_play 238 = .ok (.ifCond .eq 7, 3) := by decide +kernel
theorem dX11_play_241 : decode cX11_play 241 = .ok (.iconst 0, 1) := by decide +kernel
theorem dX11_play_242 : decode cX11_play 242 = .ok (.goto 4, 3) := by decide +kernel
theorem dX11_play_245 : decode cX11_play 245 = .ok (.iconst 1, 1) := by decide +kernel
theorem dX11_play_246 : decode cX11_play 246 = .ok (.iastore, 1) := by decide +kernel
theorem dX11_play_247 : decode cX11_play 247 = .ok (.aload_n 0, 1) := by decide +kernel
theorem dX11_play_248 : decode cX11_play 248 = .ok (.getfield 59, 3) := by decide +kernel
theorem dX11_play_251 : decode cX11_play 251 = .ok (.bipush 6, 2) := by decide +kernel
theorem dX11_play_253 : decode cX11_play 253 = .ok (.dup2, 1) := by decide +kernel
theorem dX11_play_254 : decode cX11_play 254 = .ok (.iaload, 1) := by decide +kernel
theorem dX11_play_255 : decode cX11_play 255 = .ok (.iconst 1, 1) := by decide +kernel
theorem dX11_play_256 : decode cX11_play 256 = .ok (.iadd, 1) := by decide +kernel
theorem dX11_play_257 : decode cX11_play 257 = .ok (.iastore, 1) := by decide +kernel
theorem dX11_play_258 : decode cX11_play 258 = .ok (.aload_n 0, 1) := by decide +kernel
theorem dX11_play_259 : decode cX11_play 259 = .ok (.getfield 59, 3) := by decide +kernel
theorem dX11_play_262 : decode cX11_play 262 = .ok (.bipush 14, 2) := by decide +kernel
theorem dX11_play_264 : decode cX11_play 264 = .ok (.dup2, 1) := by decide +kernel
theorem dX11_play_265 : decode cX11_play 265 = .ok (.iaload, 1) := by decide +kernel
theorem dX11_play_266 : decode cX11_play 266 = .ok (.iconst 1, 1) := by decide +kernel
theorem dX11_play_267 : decode cX11_play 267 = .ok (.iadd, 1) := by decide +kernel
theorem dX11_play_268 : decode cX11_play 268 = .ok (.iastore, 1) := by decide +kernel
theorem dX11_play_269 : decode cX11_play 269 = .ok (.aload_n 0, 1) := by decide +kernel
theorem dX11_play_270 : decode cX11_play 270 = .ok (.getfield 59, 3) := by decide +kernel
theorem dX11_play_273 : decode cX11_play 273 = .ok (.bipush 30, 2) := by decide +kernel
theorem dX11_play_275 : decode cX11_play 275 = .ok (.iaload, 1) := by decide +kernel
theorem dX11_play_276 : decode cX11_play 276 = .ok (.bipush 64, 2) := by decide +kernel
theorem dX11_play_278 : decode cX11_play 278 = .ok (.if_icmp .ge 4, 3) := by decide +kernel
theorem dX11_play_281 : decode cX11_play 281 = .ok (.return_, 1) := by decide +kernel
theorem dX11_play_282 : decode cX11_play 282 = .ok (.aload_n 0, 1) := by decide +kernel
theorem dX11_play_283 : decode cX11_play 283 = .ok (.getfield 59, 3) := by decide +kernel
theorem dX11_play_286 : decode cX11_play 286 = .ok (.bipush 30, 2) := by decide +kernel
theorem dX11_play_288 : decode cX11_play 288 = .ok (.iconst 0, 1) := by decide +kernel
theorem dX11_play_289 : decode cX11_play 289 = .ok (.iastore, 1) := by decide +kernel
theorem dX11_play_290 : decode cX11_play 290 = .ok (.aload_n 0, 1) := by decide +kernel
theorem dX11_play_291 : decode cX11_play 291 = .ok (.getfield 59, 3) := by decide +kernel
theorem dX11_play_294 : decode cX11_play 294 = .ok (.bipush 8, 2) := by decide +kernel
theorem dX11_play_296 : decode cX11_play 296 = .ok (.iconst 0, 1) := by decide +kernel
theorem dX11_play_297 : decode cX11_play 297 = .ok (.iastore, 1) := by decide +kernel
theorem dX11_play_298 : decode cX11_play 298 = .ok (.aload_n 0, 1) := by decide +kernel
theorem dX11_play_299 : decode cX11_play 299 = .ok (.getfield 59, 3) := by decide +kernel
theorem dX11_play_302 : decode cX11_play 302 = .ok (.bipush 12, 2) := by decide +kernel
theorem dX11_play_304 : decode cX11_play 304 = .ok (.dup2, 1) := by decide +kernel
theorem dX11_play_305 : decode cX11_play 305 = .ok (.iaload, 1) := by decide +kernel
theorem dX11_play_306 : decode cX11_play 306 = .ok (.iconst 1, 1) := by decide +kernel
theorem dX11_play_307 : decode cX11_play 307 = .ok (.iadd, 1) := by decide +kernel
theorem dX11_play_308 : decode cX11_play 308 = .ok (.iastore, 1) := by decide +kernel
theorem dX11_play_309 : decode cX11_play 309 = .ok (.aload_n 0, 1) := by decide +kernel
theorem dX11_play_310 : decode cX11_play 310 = .ok (.invokevirtual 275, 3) := by decide +kernel
theorem dX11_play_313 : decode cX11_play 313 = .ok (.return_, 1) := by decide +kernel
theorem dX11_aStep_0 : decode cX11_aStep 0 = .ok (.aload_n 0, 1) := by decide +kernel
theorem dX11_aStep_1 : decode cX11_aStep 1 = .ok (.invokevirtual 337, 3) := by decide +kernel
theorem dX11_aStep_4 : decode cX11_aStep 4 = .ok (.aload_n 0, 1) := by decide +kernel
theorem dX11_aStep_5 : decode cX11_aStep 5 = .ok (.invokevirtual 340, 3) := by decide +kernel
theorem dX11_aStep_8 : decode cX11_aStep 8 = .ok (.aload_n 0, 1) := by decide +kernel
theorem dX11_aStep_9 : decode cX11_aStep 9 = .ok (.invokevirtual 343, 3) := by decide +kernel
theorem dX11_aStep_12 : decode cX11_aStep 12 = .ok (.aload_n 0, 1) := by decide +kernel
theorem dX11_aStep_13 : decode cX11_aStep 13 = .ok (.getfield 59, 3) := by decide +kernel
theorem dX11_aStep_16 : decode cX11_aStep 16 = .ok (.bipush 8, 2) := by decide +kernel
theorem dX11_aStep_18 : decode cX11_aStep 18 = .ok (.iaload, 1) := by decide +kernel
theorem dX11_aStep_19 : decode cX11_aStep 19 = .ok (.iconst 2, 1) := by decide +kernel
theorem dX11_aStep_20 : decode cX11_aStep 20 = .ok (.if_icmp .ne 93, 3) := by decide +kernel
theorem dX11_aStep_23 : decode cX11_aStep 23 = .ok (.aload_n 0, 1) := by decide +kernel
theorem dX11_aStep_24 : decode cX11_aStep 24 = .ok (.getfield 59, 3) := by decide +kernel
theorem dX11_aStep_27 : decode cX11_aStep 27 = .ok (.bipush 23, 2) := by decide +kernel
theorem dX11_aStep_29 : decode cX11_aStep 29 = .ok (.dup2, 1) := by decide +kernel
theorem dX11_aStep_30 : decode cX11_aStep 30 = .ok (.iaload, 1) := by decide +kernel
theorem dX11_aStep_31 : decode cX11_aStep 31 = .ok (.sipush 1000, 3) := by decide +kernel
theorem dX11_aStep_34 : decode cX11_aStep 34 = .ok (.aload_n 0, 1) := by decide +kernel
theorem dX11_aStep_35 : decode cX11_aStep 35 = .ok (.getfield 59, 3) := by decide +kernel
theorem dX11_aStep_38 : decode cX11_aStep 38 = .ok (.bipush 9, 2) := by decide +kernel
theorem dX11_aStep_40 : decode cX11_aStep 40 = .ok (.iaload, 1) := by decide +kernel
theorem dX11_aStep_41 : decode cX11_aStep 41 = .ok (.iadd, 1) := by decide +kernel
theorem dX11_aStep_42 : decode cX11_aStep 42 = .ok (.iadd, 1) := by decide +kernel
theorem dX11_aStep_43 : decode cX11_aStep 43 = .ok (.iastore, 1) := by decide +kernel
theorem dX11_aStep_44 : decode cX11_aStep 44 = .ok (.aload_n 0, 1) := by decide +kernel
theorem dX11_aStep_45 : decode cX11_aStep 45 = .ok (.getfield 59, 3) := by decide +kernel
theorem dX11_aStep_48 : decode cX11_aStep 48 = .ok (.bipush 11, 2) := by decide +kernel
theorem dX11_aStep_50 : decode cX11_aStep 50 = .ok (.dup2, 1) := by decide +kernel
theorem dX11_aStep_51 : decode cX11_aStep 51 = .ok (.iaload, 1) := by decide +kernel
theorem dX11_aStep_52 : decode cX11_aStep 52 = .ok (.aload_n 0, 1) := by decide +kernel
theorem dX11_aStep_53 : decode cX11_aStep 53 = .ok (.getfield 59, 3) := by decide +kernel
theorem dX11_aStep_56 : decode cX11_aStep 56 = .ok (.bipush 27, 2) := by decide +kernel
theorem dX11_aStep_58 : decode cX11_aStep 58 = .ok (.iaload, 1) := by decide +kernel
theorem dX11_aStep_59 : decode cX11_aStep 59 = .ok (.aload_n 0, 1) := by decide +kernel
theorem dX11_aStep_60 : decode cX11_aStep 60 = .ok (.getfield 59, 3) := by decide +kernel
theorem dX11_aStep_63 : decode cX11_aStep 63 = .ok (.bipush 9, 2) := by decide +kernel
theorem dX11_aStep_65 : decode cX11_aStep 65 = .ok (.iaload, 1) := by decide +kernel
theorem dX11_aStep_66 : decode cX11_aStep 66 = .ok (.isub, 1) := by decide +kernel
theorem dX11_aStep_67 : decode cX11_aStep 67 = .ok (.iadd, 1) := by decide +kernel
theorem dX11_aStep_68 : decode cX11_aStep 68 = .ok (.iastore, 1) := by decide +kernel
theorem dX11_aStep_69 : decode cX11_aStep 69 = .ok (.aload_n 0, 1) := by decide +kernel
theorem dX11_aStep_70 : decode cX11_aStep 70 = .ok (.getfield 59, 3) := by decide +kernel
theorem dX11_aStep_73 : decode cX11_aStep 73 = .ok (.bipush 23, 2) := by decide +kernel
theorem dX11_aStep_75 : decode cX11_aStep 75 = .ok (.iaload, 1) := by decide +kernel
theorem dX11_aStep_76 : decode cX11_aStep 76 = .ok (.sipush 1000, 3) := by decide +kernel
theorem dX11_aStep_79 : decode cX11_aStep 79 = .ok (.if_icmp .lt 34, 3) := by decide +kernel
theorem dX11_aStep_82 : decode cX11_aStep 82 = .ok (.aload_n 0, 1) := by decide +kernel
theorem dX11_aStep_83 : decode cX11_aStep 83 = .ok (.getfield 59, 3) := by decide +kernel
theorem dX11_aStep_86 : decode cX11_aStep 86 = .ok (.bipush 8, 2) := by decide +kernel
theorem dX11_aStep_88 : decode cX11_aStep 88 = .ok (.iaload, 1) := by decide +kernel
theorem dX11_aStep_89 : decode cX11_aStep 89 = .ok (.iconst 2, 1) := by decide +kernel
theorem dX11_aStep_90 : decode cX11_aStep 90 = .ok (.if_icmp .ne 23, 3) := by decide +kernel
theorem dX11_aStep_93 : decode cX11_aStep 93 = .ok (.aload_n 0, 1) := by decide +kernel
theorem dX11_aStep_94 : decode cX11_aStep 94 = .ok (.getfield 59, 3) := by decide +kernel
theorem dX11_aStep_97 : decode cX11_aStep 97 = .ok (.bipush 23, 2) := by decide +kernel
theorem dX11_aStep_99 : decode cX11_aStep 99 = .ok (.dup2, 1) := by decide +kernel
theorem dX11_aStep_100 : decode cX11_aStep 100 = .ok (.iaload, 1) := by decide +kernel
theorem dX11_aStep_101 : decode cX11_aStep 101 = .ok (.sipush 1000, 3) := by decide +kernel
theorem dX11_aStep_104 : decode cX11_aStep 104 = .ok (.isub, 1) := by decide +kernel
theorem dX11_aStep_105 : decode cX11_aStep 105 = .ok (.iastore, 1) := by decide +kernel
theorem dX11_aStep_106 : decode cX11_aStep 106 = .ok (.aload_n 0, 1) := by decide +kernel
theorem dX11_aStep_107 : decode cX11_aStep 107 = .ok (.invokevirtual 346, 3) := by decide +kernel
theorem dX11_aStep_110 : decode cX11_aStep 110 = .ok (.goto (-41), 3) := by decide +kernel
theorem dX11_aStep_113 : decode cX11_aStep 113 = .ok (.aload_n 0, 1) := by decide +kernel
theorem dX11_aStep_114 : decode cX11_aStep 114 = .ok (.getfield 59, 3) := by decide +kernel
theorem dX11_aStep_117 : decode cX11_aStep 117 = .ok (.iconst 0, 1) := by decide +kernel
theorem dX11_aStep_118 : decode cX11_aStep 118 = .ok (.dup2, 1) := by decide +kernel
theorem dX11_aStep_119 : decode cX11_aStep 119 = .ok (.iaload, 1) := by decide +kernel
theorem dX11_aStep_120 : decode cX11_aStep 120 = .ok (.iconst 1, 1) := by decide +kernel
theorem dX11_aStep_121 : decode cX11_aStep 121 = .ok (.iadd, 1) := by decide +kernel
theorem dX11_aStep_122 : decode cX11_aStep 122 = .ok (.iastore, 1) := by decide +kernel
theorem dX11_aStep_123 : decode cX11_aStep 123 = .ok (.return_, 1) := by decide +kernel
theorem dX11_goOn_0 : decode cX11_goOn 0 = .ok (.iconst 0, 1) := by decide +kernel
theorem dX11_goOn_1 : decode cX11_goOn 1 = .ok (.istore_n 2, 1) := by decide +kernel
theorem dX11_goOn_2 : decode cX11_goOn 2 = .ok (.iload_n 2, 1) := by decide +kernel
theorem dX11_goOn_3 : decode cX11_goOn 3 = .ok (.iload_n 1, 1) := by decide +kernel
theorem dX11_goOn_4 : decode cX11_goOn 4 = .ok (.if_icmp .ge 13, 3) := by decide +kernel
theorem dX11_goOn_7 : decode cX11_goOn 7 = .ok (.aload_n 0, 1) := by decide +kernel
theorem dX11_goOn_8 : decode cX11_goOn 8 = .ok (.invokevirtual 349, 3) := by decide +kernel
theorem dX11_goOn_11 : decode cX11_goOn 11 = .ok (.iinc 2 1, 3) := by decide +kernel
theorem dX11_goOn_14 : decode cX11_goOn 14 = .ok (.goto (-12), 3) := by decide +kernel
theorem dX11_goOn_17 : decode cX11_goOn 17 = .ok (.return_, 1) := by decide +kernel
theorem dX11_regained_0 : decode cX11_regained 0 = .ok (.aload_n 0, 1) := by decide +kernel
theorem dX11_regained_1 : decode cX11_regained 1 = .ok (.getfield 59, 3) := by decide +kernel
theorem dX11_regained_4 : decode cX11_regained 4 = .ok (.bipush 8, 2) := by decide +kernel
theorem dX11_regained_6 : decode cX11_regained 6 = .ok (.iaload, 1) := by decide +kernel
theorem dX11_regained_7 : decode cX11_regained 7 = .ok (.ifCond .eq 13, 3) := by decide +kernel
theorem dX11_regained_10 : decode cX11_regained 10 = .ok (.aload_n 0, 1) := by decide +kernel
theorem dX11_regained_11 : decode cX11_regained 11 = .ok (.getfield 59, 3) := by decide +kernel
theorem dX11_regained_14 : decode cX11_regained 14 = .ok (.bipush 20, 2) := by decide +kernel
theorem dX11_regained_16 : decode cX11_regained 16 = .ok (.iaload, 1) := by decide +kernel
theorem dX11_regained_17 : decode cX11_regained 17 = .ok (.ifCond .ne 9, 3) := by decide +kernel
theorem dX11_regained_20 : decode cX11_regained 20 = .ok (.sipush 10000, 3) := by decide +kernel
theorem dX11_regained_23 : decode cX11_regained 23 = .ok (.goto 33, 3) := by decide +kernel
theorem dX11_regained_26 : decode cX11_regained 26 = .ok (.sipush 1000, 3) := by decide +kernel
theorem dX11_regained_29 : decode cX11_regained 29 = .ok (.aload_n 0, 1) := by decide +kernel
theorem dX11_regained_30 : decode cX11_regained 30 = .ok (.getfield 44, 3) := by decide +kernel
theorem dX11_regained_33 : decode cX11_regained 33 = .ok (.iconst 0, 1) := by decide +kernel
theorem dX11_regained_34 : decode cX11_regained 34 = .ok (.iaload, 1) := by decide +kernel
theorem dX11_regained_35 : decode cX11_regained 35 = .ok (.imul, 1) := by decide +kernel
theorem dX11_regained_36 : decode cX11_regained 36 = .ok (.aload_n 0, 1) := by decide +kernel
theorem dX11_regained_37 : decode cX11_regained 37 = .ok (.getfield 59, 3) := by decide +kernel
theorem dX11_regained_40 : decode cX11_regained 40 = .ok (.bipush 21, 2) := by decide +kernel
theorem dX11_regained_42 : decode cX11_regained 42 = .ok (.iaload, 1) := by decide +kernel
theorem dX11_regained_43 : decode cX11_regained 43 = .ok (.imul, 1) := by decide +kernel
theorem dX11_regained_44 : decode cX11_regained 44 = .ok (.aload_n 0, 1) := by decide +kernel
theorem dX11_regained_45 : decode cX11_regained 45 = .ok (.getfield 59, 3) := by decide +kernel
theorem dX11_regained_48 : decode cX11_regained 48 = .ok (.bipush 20, 2) := by decide +kernel
theorem dX11_regained_50 : decode cX11_regained 50 = .ok (.iaload, 1) := by decide +kernel
theorem dX11_regained_51 : decode cX11_regained 51 = .ok (.idiv, 1) := by decide +kernel
theorem dX11_regained_52 : decode cX11_regained 52 = .ok (.sipush 1000, 3) := by decide +kernel
theorem dX11_regained_55 : decode cX11_regained 55 = .ok (.isub, 1) := by decide +kernel
theorem dX11_regained_56 : decode cX11_regained 56 = .ok (.ireturn, 1) := by decide +kernel
theorem dX11_samplesKept_0 : decode cX11_samplesKept 0 = .ok (.sipush 128, 3) := by decide +kernel
theorem dX11_samplesKept_3 : decode cX11_samplesKept 3 = .ok (.aload_n 0, 1) := by decide +kernel
theorem dX11_samplesKept_4 : decode cX11_samplesKept 4 = .ok (.getfield 59, 3) := by decide +kernel
theorem dX11_samplesKept_7 : decode cX11_samplesKept 7 = .ok (.bipush 32, 2) := by decide +kernel
theorem dX11_samplesKept_9 : decode cX11_samplesKept 9 = .ok (.iaload, 1) := by decide +kernel
theorem dX11_samplesKept_10 : decode cX11_samplesKept 10 = .ok (.invokestatic 124, 3) := by decide +kernel
theorem dX11_samplesKept_13 : decode cX11_samplesKept 13 = .ok (.ireturn, 1) := by decide +kernel
theorem dX11_playedKept_0 : decode cX11_playedKept 0 = .ok (.sipush 128, 3) := by decide +kernel
theorem dX11_playedKept_3 : decode cX11_playedKept 3 = .ok (.aload_n 0, 1) := by decide +kernel
theorem dX11_playedKept_4 : decode cX11_playedKept 4 = .ok (.getfield 59, 3) := by decide +kernel
theorem dX11_playedKept_7 : decode cX11_playedKept 7 = .ok (.bipush 6, 2) := by decide +kernel
theorem dX11_playedKept_9 : decode cX11_playedKept 9 = .ok (.iaload, 1) := by decide +kernel
theorem dX11_playedKept_10 : decode cX11_playedKept 10 = .ok (.invokestatic 124, 3) := by decide +kernel
theorem dX11_playedKept_13 : decode cX11_playedKept 13 = .ok (.ireturn, 1) := by decide +kernel
theorem dX11_count_0 : decode cX11_count 0 = .ok (.aload_n 0, 1) := by decide +kernel
theorem dX11_count_1 : decode cX11_count 1 = .ok (.invokevirtual 247, 3) := by decide +kernel
theorem dX11_count_4 : decode cX11_count 4 = .ok (.iload_n 1, 1) := by decide +kernel
theorem dX11_count_5 : decode cX11_count 5 = .ok (.tableswitch 253 0 22 #[107, 114, 121, 128, 135, 143, 150, 157, 165, 173, 178, 186, 194, 202, 207, 215, 223, 228, 233, 238, 243, 243, 243], 107) := by decide +kernel
theorem dX11_count_112 : decode cX11_count 112 = .ok (.aload_n 0, 1) := by decide +kernel
theorem dX11_count_113 : decode cX11_count 113 = .ok (.getfield 59, 3) := by decide +kernel
theorem dX11_count_116 : decode cX11_count 116 = .ok (.iconst 0, 1) := by decide +kernel
theorem dX11_count_117 : decode cX11_count 117 = .ok (.iaload, 1) := by decide +kernel
theorem dX11_count_118 : decode cX11_count 118 = .ok (.ireturn, 1) := by decide +kernel
theorem dX11_count_119 : decode cX11_count 119 = .ok (.aload_n 0, 1) := by decide +kernel
theorem dX11_count_120 : decode cX11_count 120 = .ok (.getfield 59, 3) := by decide +kernel
theorem dX11_count_123 : decode cX11_count 123 = .ok (.iconst 1, 1) := by decide +kernel
theorem dX11_count_124 : decode cX11_count 124 = .ok (.iaload, 1) := by decide +kernel
theorem dX11_count_125 : decode cX11_count 125 = .ok (.ireturn, 1) := by decide +kernel
theorem dX11_count_126 : decode cX11_count 126 = .ok (.aload_n 0, 1) := by decide +kernel
theorem dX11_count_127 : decode cX11_count 127 = .ok (.getfield 59, 3) := by decide +kernel
theorem dX11_count_130 : decode cX11_count 130 = .ok (.iconst 2, 1) := by decide +kernel
theorem dX11_count_131 : decode cX11_count 131 = .ok (.iaload, 1) := by decide +kernel
theorem dX11_count_132 : decode cX11_count 132 = .ok (.ireturn, 1) := by decide +kernel
theorem dX11_count_133 : decode cX11_count 133 = .ok (.aload_n 0, 1) := by decide +kernel
theorem dX11_count_134 : decode cX11_count 134 = .ok (.getfield 59, 3) := by decide +kernel
theorem dX11_count_137 : decode cX11_count 137 = .ok (.iconst 3, 1) := by decide +kernel
theorem dX11_count_138 : decode cX11_count 138 = .ok (.iaload, 1) := by decide +kernel
theorem dX11_count_139 : decode cX11_count 139 = .ok (.ireturn, 1) := by decide +kernel
theorem dX11_count_140 : decode cX11_count 140 = .ok (.aload_n 0, 1) := by decide +kernel
theorem dX11_count_141 : decode cX11_count 141 = .ok (.getfield 59, 3) := by decide +kernel
theorem dX11_count_144 : decode cX11_count 144 = .ok (.bipush 31, 2) := by decide +kernel
theorem dX11_count_146 : decode cX11_count 146 = .ok (.iaload, 1) := by decide +kernel
theorem dX11_count_147 : decode cX11_count 147 = .ok (.ireturn, 1) := by decide +kernel
theorem dX11_count_148 : decode cX11_count 148 = .ok (.aload_n 0, 1) := by decide +kernel
theorem dX11_count_149 : decode cX11_count 149 = .ok (.getfield 59, 3) := by decide +kernel
theorem dX11_count_152 : decode cX11_count 152 = .ok (.iconst 4, 1) := by decide +kernel
theorem dX11_count_153 : decode cX11_count 153 = .ok (.iaload, 1) := by decide +kernel
theorem dX11_count_154 : decode cX11_count 154 = .ok (.ireturn, 1) := by decide +kernel
theorem dX11_count_155 : decode cX11_count 155 = .ok (.aload_n 0, 1) := by decide +kernel
theorem dX11_count_156 : decode cX11_count 156 = .ok (.getfield 59, 3) := by decide +kernel
theorem dX11_count_159 : decode cX11_count 159 = .ok (.iconst 5, 1) := by decide +kernel
theorem dX11_count_160 : decode cX11_count 160 = .ok (.iaload, 1) := by decide +kernel
theorem dX11_count_161 : decode cX11_count 161 = .ok (.ireturn, 1) := by decide +kernel
theorem dX11_count_162 : decode cX11_count 162 = .ok (.aload_n 0, 1) := by decide +kernel
theorem dX11_count_163 : decode cX11_count 163 = .ok (.getfield 59, 3) := by decide +kernel
theorem dX11_count_166 : decode cX11_count 166 = .ok (.bipush 6, 2) := by decide +kernel
theorem dX11_count_168 : decode cX11_count 168 = .ok (.iaload, 1) := by decide +kernel
theorem dX11_count_169 : decode cX11_count 169 = .ok (.ireturn, 1) := by decide +kernel
theorem dX11_count_170 : decode cX11_count 170 = .ok (.aload_n 0, 1) := by decide +kernel
theorem dX11_count_171 : decode cX11_count 171 = .ok (.getfield 59, 3) := by decide +kernel
theorem dX11_count_174 : decode cX11_count 174 = .ok (.bipush 7, 2) := by decide +kernel
theorem dX11_count_176 : decode cX11_count 176 = .ok (.iaload, 1) := by decide +kernel
theorem dX11_count_177 : decode cX11_count 177 = .ok (.ireturn, 1) := by decide +kernel
theorem dX11_count_178 : decode cX11_count 178 = .ok (.aload_n 0, 1) := by decide +kernel
theorem dX11_count_179 : decode cX11_count 179 = .ok (.invokevirtual 325, 3) := by decide +kernel
theorem dX11_count_182 : decode cX11_count 182 = .ok (.ireturn, 1) := by decide +kernel
theorem dX11_count_183 : decode cX11_count 183 = .ok (.aload_n 0, 1) := by decide +kernel
theorem dX11_count_184 : decode cX11_count 184 = .ok (.getfield 59, 3) := by decide +kernel
theorem dX11_count_187 : decode cX11_count 187 = .ok (.bipush 8, 2) := by decide +kernel
theorem dX11_count_189 : decode cX11_count 189 = .ok (.iaload, 1) := by decide +kernel
theorem dX11_count_190 : decode cX11_count 190 = .ok (.ireturn, 1) := by decide +kernel
theorem dX11_count_191 : decode cX11_count 191 = .ok (.aload_n 0, 1) := by decide +kernel
theorem dX11_count_192 : decode cX11_count 192 = .ok (.getfield 59, 3) := by decide +kernel
theorem dX11_count_195 : decode cX11_count 195 = .ok (.bipush 9, 2) := by decide +kernel
theorem dX11_count_197 : decode cX11_count 197 = .ok (.iaload, 1) := by decide +kernel
theorem dX11_count_198 : decode cX11_count 198 = .ok (.ireturn, 1) := by decide +kernel
theorem dX11_count_199 : decode cX11_count 199 = .ok (.aload_n 0, 1) := by decide +kernel
theorem dX11_count_200 : decode cX11_count 200 = .ok (.getfield 59, 3) := by decide +kernel
theorem dX11_count_203 : decode cX11_count 203 = .ok (.bipush 10, 2) := by decide +kernel
theorem dX11_count_205 : decode cX11_count 205 = .ok (.iaload, 1) := by decide +kernel
theorem dX11_count_206 : decode cX11_count 206 = .ok (.ireturn, 1) := by decide +kernel
theorem dX11_count_207 : decode cX11_count 207 = .ok (.aload_n 0, 1) := by decide +kernel
theorem dX11_count_208 : decode cX11_count 208 = .ok (.invokevirtual 352, 3) := by decide +kernel
theorem dX11_count_211 : decode cX11_count 211 = .ok (.ireturn, 1) := by decide +kernel
theorem dX11_count_212 : decode cX11_count 212 = .ok (.aload_n 0, 1) := by decide +kernel
theorem dX11_count_213 : decode cX11_count 213 = .ok (.getfield 59, 3) := by decide +kernel
theorem dX11_count_216 : decode cX11_count 216 = .ok (.bipush 12, 2) := by decide +kernel
theorem dX11_count_218 : decode cX11_count 218 = .ok (.iaload, 1) := by decide +kernel
theorem dX11_count_219 : decode cX11_count 219 = .ok (.ireturn, 1) := by decide +kernel
theorem dX11_count_220 : decode cX11_count 220 = .ok (.aload_n 0, 1) := by decide +kernel
theorem dX11_count_221 : decode cX11_count 221 = .ok (.getfield 59, 3) := by decide +kernel
theorem dX11_count_224 : decode cX11_count 224 = .ok (.bipush 13, 2) := by decide +kernel
theorem dX11_count_226 : decode cX11_count 226 = .ok (.iaload, 1) := by decide +kernel
theorem dX11_count_227 : decode cX11_count 227 = .ok (.ireturn, 1) := by decide +kernel
theorem dX11_count_228 : decode cX11_count 228 = .ok (.aload_n 0, 1) := by decide +kernel
theorem dX11_count_229 : decode cX11_count 229 = .ok (.invokevirtual 355, 3) := by decide +kernel
theorem dX11_count_232 : decode cX11_count 232 = .ok (.ireturn, 1) := by decide +kernel
theorem dX11_count_233 : decode cX11_count 233 = .ok (.aload_n 0, 1) := by decide +kernel
theorem dX11_count_234 : decode cX11_count 234 = .ok (.getfield 278, 3) := by decide +kernel
theorem dX11_count_237 : decode cX11_count 237 = .ok (.ireturn, 1) := by decide +kernel
theorem dX11_count_238 : decode cX11_count 238 = .ok (.aload_n 0, 1) := by decide +kernel
theorem dX11_count_239 : decode cX11_count 239 = .ok (.getfield 281, 3) := by decide +kernel
theorem dX11_count_242 : decode cX11_count 242 = .ok (.ireturn, 1) := by decide +kernel
theorem dX11_count_243 : decode cX11_count 243 = .ok (.aload_n 0, 1) := by decide +kernel
theorem dX11_count_244 : decode cX11_count 244 = .ok (.getfield 133, 3) := by decide +kernel
theorem dX11_count_247 : decode cX11_count 247 = .ok (.ireturn, 1) := by decide +kernel
theorem dX11_count_248 : decode cX11_count 248 = .ok (.aload_n 0, 1) := by decide +kernel
theorem dX11_count_249 : decode cX11_count 249 = .ok (.getfield 56, 3) := by decide +kernel
theorem dX11_count_252 : decode cX11_count 252 = .ok (.iload_n 1, 1) := by decide +kernel
theorem dX11_count_253 : decode cX11_count 253 = .ok (.bipush 20, 2) := by decide +kernel
theorem dX11_count_255 : decode cX11_count 255 = .ok (.isub, 1) := by decide +kernel
theorem dX11_count_256 : decode cX11_count 256 = .ok (.iaload, 1) := by decide +kernel
theorem dX11_count_257 : decode cX11_count 257 = .ok (.ireturn, 1) := by decide +kernel
theorem dX11_count_258 : decode cX11_count 258 = .ok (.aload_n 0, 1) := by decide +kernel
theorem dX11_count_259 : decode cX11_count 259 = .ok (.iconst 1, 1) := by decide +kernel
theorem dX11_count_260 : decode cX11_count 260 = .ok (.invokevirtual 250, 3) := by decide +kernel
theorem dX11_count_263 : decode cX11_count 263 = .ok (.ireturn, 1) := by decide +kernel
theorem dX11_set_0 : decode cX11_set 0 = .ok (.aload_n 0, 1) := by decide +kernel
theorem dX11_set_1 : decode cX11_set 1 = .ok (.invokevirtual 247, 3) := by decide +kernel
theorem dX11_set_4 : decode cX11_set 4 = .ok (.iload_n 1, 1) := by decide +kernel
theorem dX11_set_5 : decode cX11_set 5 = .ok (.tableswitch 197 0 14 #[75, 82, 90, 95, 100, 107, 115, 123, 131, 139, 147, 155, 163, 171, 189], 75) := by decide +kernel
theorem dX11_set_80 : decode cX11_set 80 = .ok (.aload_n 0, 1) := by decide +kernel
theorem dX11_set_81 : decode cX11_set 81 = .ok (.getfield 44, 3) := by decide +kernel
theorem dX11_set_84 : decode cX11_set 84 = .ok (.iconst 0, 1) := by decide +kernel
theorem dX11_set_85 : decode cX11_set 85 = .ok (.iaload, 1) := by decide +kernel
theorem dX11_set_86 : decode cX11_set 86 = .ok (.ireturn, 1) := by decide +kernel
theorem dX11_set_87 : decode cX11_set 87 = .ok (.aload_n 0, 1) := by decide +kernel
theorem dX11_set_88 : decode cX11_set 88 = .ok (.getfield 59, 3) := by decide +kernel
theorem dX11_set_91 : decode cX11_set 91 = .ok (.bipush 29, 2) := by decide +kernel
theorem dX11_set_93 : decode cX11_set 93 = .ok (.iaload, 1) := by decide +kernel
theorem dX11_set_94 : decode cX11_set 94 = .ok (.ireturn, 1) := by decide +kernel
theorem dX11_set_95 : decode cX11_set 95 = .ok (.aload_n 0, 1) := by decide +kernel
theorem dX11_set_96 : decode cX11_set 96 = .ok (.getfield 266, 3) := by decide +kernel
theorem dX11_set_99 : decode cX11_set 99 = .ok (.ireturn, 1) := by decide +kernel
theorem dX11_set_100 : decode cX11_set 100 = .ok (.aload_n 0, 1) := by decide +kernel
theorem dX11_set_101 : decode cX11_set 101 = .ok (.getfield 269, 3) := by decide +kernel
theorem dX11_set_104 : decode cX11_set 104 = .ok (.ireturn, 1) := by decide +kernel
theorem dX11_set_105 : decode cX11_set 105 = .ok (.aload_n 0, 1) := by decide +kernel
theorem dX11_set_106 : decode cX11_set 106 = .ok (.getfield 44, 3) := by decide +kernel
theorem dX11_set_109 : decode cX11_set 109 = .ok (.iconst 4, 1) := by decide +kernel
theorem dX11_set_110 : decode cX11_set 110 = .ok (.iaload, 1) := by decide +kernel
theorem dX11_set_111 : decode cX11_set 111 = .ok (.ireturn, 1) := by decide +kernel
theorem dX11_set_112 : decode cX11_set 112 = .ok (.aload_n 0, 1) := by decide +kernel
theorem dX11_set_113 : decode cX11_set 113 = .ok (.getfield 59, 3) := by decide +kernel
theorem dX11_set_116 : decode cX11_set 116 = .ok (.bipush 27, 2) := by decide +kernel
theorem dX11_set_118 : decode cX11_set 118 = .ok (.iaload, 1) := by decide +kernel
theorem dX11_set_119 : decode cX11_set 119 = .ok (.ireturn, 1) := by decide +kernel
theorem dX11_set_120 : decode cX11_set 120 = .ok (.aload_n 0, 1) := by decide +kernel
theorem dX11_set_121 : decode cX11_set 121 = .ok (.getfield 44, 3) := by decide +kernel
theorem dX11_set_124 : decode cX11_set 124 = .ok (.bipush 6, 2) := by decide +kernel
theorem dX11_set_126 : decode cX11_set 126 = .ok (.iaload, 1) := by decide +kernel
theorem dX11_set_127 : decode cX11_set 127 = .ok (.ireturn, 1) := by decide +kernel
theorem dX11_set_128 : decode cX11_set 128 = .ok (.aload_n 0, 1) := by decide +kernel
theorem dX11_set_129 : decode cX11_set 129 = .ok (.getfield 44, 3) := by decide +kernel
theorem dX11_set_132 : decode cX11_set 132 = .ok (.bipush 7, 2) := by decide +kernel
theorem dX11_set_134 : decode cX11_set 134 = .ok (.iaload, 1) := by decide +kernel
theorem dX11_set_135 : decode cX11_set 135 = .ok (.ireturn, 1) := by decide +kernel
theorem dX11_set_136 : decode cX11_set 136 = .ok (.aload_n 0, 1) := by decide +kernel
theorem dX11_set_137 : decode cX11_set 137 = .ok (.getfield 59, 3) := by decide +kernel
theorem dX11_set_140 : decode cX11_set 140 = .ok (.bipush 28, 2) := by decide +kernel
theorem dX11_set_142 : decode cX11_set 142 = .ok (.iaload, 1) := by decide +kernel
theorem dX11_set_143 : decode cX11_set 143 = .ok (.ireturn, 1) := by decide +kernel
theorem dX11_set_144 : decode cX11_set 144 = .ok (.aload_n 0, 1) := by decide +kernel
theorem dX11_set_145 : decode cX11_set 145 = .ok (.getfield 59, 3) := by decide +kernel
theorem dX11_set_148 : decode cX11_set 148 = .ok (.bipush 25, 2) := by decide +kernel
theorem dX11_set_150 : decode cX11_set 150 = .ok (.iaload, 1) := by decide +kernel
theorem dX11_set_151 : decode cX11_set 151 = .ok (.ireturn, 1) := by decide +kernel
theorem dX11_set_152 : decode cX11_set 152 = .ok (.aload_n 0, 1) := by decide +kernel
theorem dX11_set_153 : decode cX11_set 153 = .ok (.getfield 59, 3) := by decide +kernel
theorem dX11_set_156 : decode cX11_set 156 = .ok (.bipush 26, 2) := by decide +kernel
theorem dX11_set_158 : decode cX11_set 158 = .ok (.iaload, 1) := by decide +kernel
theorem dX11_set_159 : decode cX11_set 159 = .ok (.ireturn, 1) := by decide +kernel
theorem dX11_set_160 : decode cX11_set 160 = .ok (.aload_n 0, 1) := by decide +kernel
theorem dX11_set_161 : decode cX11_set 161 = .ok (.getfield 59, 3) := by decide +kernel
theorem dX11_set_164 : decode cX11_set 164 = .ok (.bipush 22, 2) := by decide +kernel
theorem dX11_set_166 : decode cX11_set 166 = .ok (.iaload, 1) := by decide +kernel
theorem dX11_set_167 : decode cX11_set 167 = .ok (.ireturn, 1) := by decide +kernel
theorem dX11_set_168 : decode cX11_set 168 = .ok (.aload_n 0, 1) := by decide +kernel
theorem dX11_set_169 : decode cX11_set 169 = .ok (.getfield 59, 3) := by decide +kernel
theorem dX11_set_172 : decode cX11_set 172 = .ok (.bipush 23, 2) := by decide +kernel
theorem dX11_set_174 : decode cX11_set 174 = .ok (.iaload, 1) := by decide +kernel
theorem dX11_set_175 : decode cX11_set 175 = .ok (.ireturn, 1) := by decide +kernel
theorem dX11_set_176 : decode cX11_set 176 = .ok (.aload_n 0, 1) := by decide +kernel
theorem dX11_set_177 : decode cX11_set 177 = .ok (.getfield 59, 3) := by decide +kernel
theorem dX11_set_180 : decode cX11_set 180 = .ok (.bipush 14, 2) := by decide +kernel
theorem dX11_set_182 : decode cX11_set 182 = .ok (.iaload, 1) := by decide +kernel
theorem dX11_set_183 : decode cX11_set 183 = .ok (.bipush 64, 2) := by decide +kernel
theorem dX11_set_185 : decode cX11_set 185 = .ok (.aload_n 0, 1) := by decide +kernel
theorem dX11_set_186 : decode cX11_set 186 = .ok (.getfield 44, 3) := by decide +kernel
theorem dX11_set_189 : decode cX11_set 189 = .ok (.iconst 0, 1) := by decide +kernel
theorem dX11_set_190 : decode cX11_set 190 = .ok (.iaload, 1) := by decide +kernel
theorem dX11_set_191 : decode cX11_set 191 = .ok (.imul, 1) := by decide +kernel
theorem dX11_set_192 : decode cX11_set 192 = .ok (.irem, 1) := by decide +kernel
theorem dX11_set_193 : decode cX11_set 193 = .ok (.ireturn, 1) := by decide +kernel
theorem dX11_set_194 : decode cX11_set 194 = .ok (.aload_n 0, 1) := by decide +kernel
theorem dX11_set_195 : decode cX11_set 195 = .ok (.getfield 59, 3) := by decide +kernel
theorem dX11_set_198 : decode cX11_set 198 = .ok (.bipush 11, 2) := by decide +kernel
theorem dX11_set_200 : decode cX11_set 200 = .ok (.iaload, 1) := by decide +kernel
theorem dX11_set_201 : decode cX11_set 201 = .ok (.ireturn, 1) := by decide +kernel
theorem dX11_set_202 : decode cX11_set 202 = .ok (.aload_n 0, 1) := by decide +kernel
theorem dX11_set_203 : decode cX11_set 203 = .ok (.iconst 1, 1) := by decide +kernel
theorem dX11_set_204 : decode cX11_set 204 = .ok (.invokevirtual 250, 3) := by decide +kernel
theorem dX11_set_207 : decode cX11_set 207 = .ok (.ireturn, 1) := by decide +kernel
theorem dX11_flying_0 : decode cX11_flying 0 = .ok (.aload_n 0, 1) := by decide +kernel
theorem dX11_flying_1 : decode cX11_flying 1 = .ok (.invokevirtual 247, 3) := by decide +kernel
theorem dX11_flying_4 : decode cX11_flying 4 = .ok (.iload_n 1, 1) := by decide +kernel
theorem dX11_flying_5 : decode cX11_flying 5 = .ok (.i2l, 1) := by decide +kernel
theorem dX11_flying_6 : decode cX11_flying 6 = .ok (.lconst 0, 1) := by decide +kernel
theorem dX11_flying_7 : decode cX11_flying 7 = .ok (.aload_n 0, 1) := by decide +kernel
theorem dX11_flying_8 : decode cX11_flying 8 = .ok (.getfield 59, 3) := by decide +kernel
theorem dX11_flying_11 : decode cX11_flying 11 = .ok (.bipush 31, 2) := by decide +kernel
theorem dX11_flying_13 : decode cX11_flying 13 = .ok (.iaload, 1) := by decide +kernel
theorem dX11_flying_14 : decode cX11_flying 14 = .ok (.iconst 1, 1) := by decide +kernel
theorem dX11_flying_15 : decode cX11_flying 15 = .ok (.isub, 1) := by decide +kernel
theorem dX11_flying_16 : decode cX11_flying 16 = .ok (.i2l, 1) := by decide +kernel
theorem dX11_flying_17 : decode cX11_flying 17 = .ok (.invokestatic 358, 3) := by decide +kernel
theorem dX11_flying_20 : decode cX11_flying 20 = .ok (.ifCond .eq 31, 3) := by decide +kernel
theorem dX11_flying_23 : decode cX11_flying 23 = .ok (.iload_n 2, 1) := by decide +kernel
theorem dX11_flying_24 : decode cX11_flying 24 = .ok (.i2l, 1) := by decide +kernel
theorem dX11_flying_25 : decode cX11_flying 25 = .ok (.lconst 0, 1) := by decide +kernel
theorem dX11_flying_26 : decode cX11_flying 26 = .ok (.ldc2_w 362, 3) := by decide +kernel
theorem dX11_flying_29 : decode cX11_flying 29 = .ok (.invokestatic 358, 3) := by decide +kernel
theorem dX11_flying_32 : decode cX11_flying 32 = .ok (.ifCond .eq 19, 3) := by decide +kernel
theorem dX11_flying_35 : decode cX11_flying 35 = .ok (.aload_n 0, 1) := by decide +kernel
theorem dX11_flying_36 : decode cX11_flying 36 = .ok (.getfield 59, 3) := by decide +kernel
theorem dX11_flying_39 : decode cX11_flying 39 = .ok (.bipush 33, 2) := by decide +kernel
theorem dX11_flying_41 : decode cX11_flying 41 = .ok (.iconst 3, 1) := by decide +kernel
theorem dX11_flying_42 : decode cX11_flying 42 = .ok (.iload_n 1, 1) := by decide +kernel
theorem dX11_flying_43 : decode cX11_flying 43 = .ok (.imul, 1) := by decide +kernel
theorem dX11_flying_44 : decode cX11_flying 44 = .ok (.iadd, 1) := by decide +kernel
theorem dX11_flying_45 : decode cX11_flying 45 = .ok (.iload_n 2, 1) := by decide +kernel
theorem dX11_flying_46 : decode cX11_flying 46 = .ok (.iadd, 1) := by decide +kernel
theorem dX11_flying_47 : decode cX11_flying 47 = .ok (.iaload, 1) := by decide +kernel
theorem dX11_flying_48 : decode cX11_flying 48 = .ok (.goto 8, 3) := by decide +kernel
theorem dX11_flying_51 : decode cX11_flying 51 = .ok (.aload_n 0, 1) := by decide +kernel
theorem dX11_flying_52 : decode cX11_flying 52 = .ok (.iconst 1, 1) := by decide +kernel
theorem dX11_flying_53 : decode cX11_flying 53 = .ok (.invokevirtual 250, 3) := by decide +kernel
theorem dX11_flying_56 : decode cX11_flying 56 = .ok (.ireturn, 1) := by decide +kernel
theorem dX11_slot_0 : decode cX11_slot 0 = .ok (.aload_n 0, 1) := by decide +kernel
theorem dX11_slot_1 : decode cX11_slot 1 = .ok (.invokevirtual 247, 3) := by decide +kernel
theorem dX11_slot_4 : decode cX11_slot 4 = .ok (.iload_n 1, 1) := by decide +kernel
theorem dX11_slot_5 : decode cX11_slot 5 = .ok (.i2l, 1) := by decide +kernel
theorem dX11_slot_6 : decode cX11_slot 6 = .ok (.lconst 0, 1) := by decide +kernel
theorem dX11_slot_7 : decode cX11_slot 7 = .ok (.ldc2_w 364, 3) := by decide +kernel
theorem dX11_slot_10 : decode cX11_slot 10 = .ok (.invokestatic 358, 3) := by decide +kernel
theorem dX11_slot_13 : decode cX11_slot 13 = .ok (.ifCond .ne 9, 3) := by decide +kernel
theorem dX11_slot_16 : decode cX11_slot 16 = .ok (.aload_n 0, 1) := by decide +kernel
theorem dX11_slot_17 : decode cX11_slot 17 = .ok (.iconst 1, 1) := by decide +kernel
theorem dX11_slot_18 : decode cX11_slot 18 = .ok (.invokevirtual 250, 3) := by decide +kernel
theorem dX11_slot_21 : decode cX11_slot 21 = .ok (.ireturn, 1) := by decide +kernel
theorem dX11_slot_22 : decode cX11_slot 22 = .ok (.aload_n 0, 1) := by decide +kernel
theorem dX11_slot_23 : decode cX11_slot 23 = .ok (.getfield 59, 3) := by decide +kernel
theorem dX11_slot_26 : decode cX11_slot 26 = .ok (.sipush 153, 3) := by decide +kernel
theorem dX11_slot_29 : decode cX11_slot 29 = .ok (.iload_n 1, 1) := by decide +kernel
theorem dX11_slot_30 : decode cX11_slot 30 = .ok (.iadd, 1) := by decide +kernel
theorem dX11_slot_31 : decode cX11_slot 31 = .ok (.iaload, 1) := by decide +kernel
theorem dX11_slot_32 : decode cX11_slot 32 = .ok (.iconst (-1), 1) := by decide +kernel
theorem dX11_slot_33 : decode cX11_slot 33 = .ok (.if_icmp .eq 33, 3) := by decide +kernel
theorem dX11_slot_36 : decode cX11_slot 36 = .ok (.aload_n 0, 1) := by decide +kernel
theorem dX11_slot_37 : decode cX11_slot 37 = .ok (.getfield 59, 3) := by decide +kernel
theorem dX11_slot_40 : decode cX11_slot 40 = .ok (.sipush 217, 3) := by decide +kernel
theorem dX11_slot_43 : decode cX11_slot 43 = .ok (.iload_n 1, 1) := by decide +kernel
theorem dX11_slot_44 : decode cX11_slot 44 = .ok (.iadd, 1) := by decide +kernel
theorem dX11_slot_45 : decode cX11_slot 45 = .ok (.iaload, 1) := by decide +kernel
theorem dX11_slot_46 : decode cX11_slot 46 = .ok (.aload_n 0, 1) := by decide +kernel
theorem dX11_slot_47 : decode cX11_slot 47 = .ok (.invokevirtual 318, 3) := by decide +kernel
theorem dX11_slot_50 : decode cX11_slot 50 = .ok (.if_icmp .lt 16, 3) := by decide +kernel
theorem dX11_slot_53 : decode cX11_slot 53 = .ok (.aload_n 0, 1) := by decide +kernel
theorem dX11_slot_54 : decode cX11_slot 54 = .ok (.getfield 59, 3) := by decide +kernel
theorem dX11_slot_57 : decode cX11_slot 57 = .ok (.sipush 153, 3) := by decide +kernel
theorem dX11_slot_60 : decode cX11_slot 60 = .ok (.iload_n 1, 1) := by decide +kernel
theorem dX11_slot_61 : decode cX11_slot 61 = .ok (.iadd, 1) := by decide +kernel
theorem dX11_slot_62 : decode cX11_slot 62 = .ok (.iaload, 1) := by decide +kernel
theorem dX11_slot_63 : decode cX11_slot 63 = .ok (.goto 4, 3) := by decide +kernel
theorem dX11_slot_66 : decode cX11_slot 66 = .ok (.iconst (-1), 1) := by decide +kernel
theorem dX11_slot_67 : decode cX11_slot 67 = .ok (.ireturn, 1) := by decide +kernel
theorem dX11_played_0 : decode cX11_played 0 = .ok (.aload_n 0, 1) := by decide +kernel
theorem dX11_played_1 : decode cX11_played 1 = .ok (.invokevirtual 247, 3) := by decide +kernel
theorem dX11_played_4 : decode cX11_played 4 = .ok (.iload_n 1, 1) := by decide +kernel
theorem dX11_played_5 : decode cX11_played 5 = .ok (.i2l, 1) := by decide +kernel
theorem dX11_played_6 : decode cX11_played 6 = .ok (.lconst 0, 1) := by decide +kernel
theorem dX11_played_7 : decode cX11_played 7 = .ok (.aload_n 0, 1) := by decide +kernel
theorem dX11_played_8 : decode cX11_played 8 = .ok (.invokevirtual 366, 3) := by decide +kernel
theorem dX11_played_11 : decode cX11_played 11 = .ok (.iconst 1, 1) := by decide +kernel
theorem dX11_played_12 : decode cX11_played 12 = .ok (.isub, 1) := by decide +kernel
theorem dX11_played_13 : decode cX11_played 13 = .ok (.i2l, 1) := by decide +kernel
theorem dX11_played_14 : decode cX11_played 14 = .ok (.invokestatic 358, 3) := by decide +kernel
theorem dX11_played_17 : decode cX11_played 17 = .ok (.ifCond .eq 13, 3) := by decide +kernel
theorem dX11_played_20 : decode cX11_played 20 = .ok (.iload_n 2, 1) := by decide +kernel
theorem dX11_played_21 : decode cX11_played 21 = .ok (.i2l, 1) := by decide +kernel
theorem dX11_played_22 : decode cX11_played 22 = .ok (.lconst 0, 1) := by decide +kernel
theorem dX11_played_23 : decode cX11_played 23 = .ok (.lconst 1, 1) := by decide +kernel
theorem dX11_played_24 : decode cX11_played 24 = .ok (.invokestatic 358, 3) := by decide +kernel
theorem dX11_played_27 : decode cX11_played 27 = .ok (.ifCond .ne 9, 3) := by decide +kernel
theorem dX11_played_30 : decode cX11_played 30 = .ok (.aload_n 0, 1) := by decide +kernel
theorem dX11_played_31 : decode cX11_played 31 = .ok (.iconst 1, 1) := by decide +kernel
theorem dX11_played_32 : decode cX11_played 32 = .ok (.invokevirtual 250, 3) := by decide +kernel
theorem dX11_played_35 : decode cX11_played 35 = .ok (.ireturn, 1) := by decide +kernel
theorem dX11_played_36 : decode cX11_played 36 = .ok (.aload_n 0, 1) := by decide +kernel
theorem dX11_played_37 : decode cX11_played 37 = .ok (.getfield 59, 3) := by decide +kernel
theorem dX11_played_40 : decode cX11_played 40 = .ok (.iload_n 2, 1) := by decide +kernel
theorem dX11_played_41 : decode cX11_played 41 = .ok (.ifCond .ne 9, 3) := by decide +kernel
theorem dX11_played_44 : decode cX11_played 44 = .ok (.sipush 409, 3) := by decide +kernel
theorem dX11_played_47 : decode cX11_played 47 = .ok (.goto 6, 3) := by decide +kernel
theorem dX11_played_50 : decode cX11_played 50 = .ok (.sipush 537, 3) := by decide +kernel
theorem dX11_played_53 : decode cX11_played 53 = .ok (.aload_n 0, 1) := by decide +kernel
theorem dX11_played_54 : decode cX11_played 54 = .ok (.getfield 59, 3) := by decide +kernel
theorem dX11_played_57 : decode cX11_played 57 = .ok (.bipush 6, 2) := by decide +kernel
theorem dX11_played_59 : decode cX11_played 59 = .ok (.iaload, 1) := by decide +kernel
theorem dX11_played_60 : decode cX11_played 60 = .ok (.iconst 1, 1) := by decide +kernel
theorem dX11_played_61 : decode cX11_played 61 = .ok (.isub, 1) := by decide +kernel
theorem dX11_played_62 : decode cX11_played 62 = .ok (.iload_n 1, 1) := by decide +kernel
theorem dX11_played_63 : decode cX11_played 63 = .ok (.isub, 1) := by decide +kernel
theorem dX11_played_64 : decode cX11_played 64 = .ok (.sipush 128, 3) := by decide +kernel
theorem dX11_played_67 : decode cX11_played 67 = .ok (.irem, 1) := by decide +kernel
theorem dX11_played_68 : decode cX11_played 68 = .ok (.iadd, 1) := by decide +kernel
theorem dX11_played_69 : decode cX11_played 69 = .ok (.iaload, 1) := by decide +kernel
theorem dX11_played_70 : decode cX11_played 70 = .ok (.ireturn, 1) := by decide +kernel
theorem dX11_spans_0 : decode cX11_spans 0 = .ok (.aload_n 0, 1) := by decide +kernel
theorem dX11_spans_1 : decode cX11_spans 1 = .ok (.invokevirtual 247, 3) := by decide +kernel
theorem dX11_spans_4 : decode cX11_spans 4 = .ok (.iload_n 1, 1) := by decide +kernel
theorem dX11_spans_5 : decode cX11_spans 5 = .ok (.i2l, 1) := by decide +kernel
theorem dX11_spans_6 : decode cX11_spans 6 = .ok (.lconst 1, 1) := by decide +kernel
theorem dX11_spans_7 : decode cX11_spans 7 = .ok (.ldc2_w 369, 3) := by decide +kernel
theorem dX11_spans_10 : decode cX11_spans 10 = .ok (.invokestatic 358, 3) := by decide +kernel
theorem dX11_spans_13 : decode cX11_spans 13 = .ok (.ifCond .ne 9, 3) := by decide +kernel
theorem dX11_spans_16 : decode cX11_spans 16 = .ok (.aload_n 0, 1) := by decide +kernel
theorem dX11_spans_17 : decode cX11_spans 17 = .ok (.iconst 2, 1) := by decide +kernel
theorem dX11_spans_18 : decode cX11_spans 18 = .ok (.invokevirtual 250, 3) := by decide +kernel
theorem dX11_spans_21 : decode cX11_spans 21 = .ok (.ireturn, 1) := by decide +kernel
theorem dX11_spans_22 : decode cX11_spans 22 = .ok (.iconst 0, 1) := by decide +kernel
theorem dX11_spans_23 : decode cX11_spans 23 = .ok (.istore_n 3, 1) := by decide +kernel
theorem dX11_spans_24 : decode cX11_spans 24 = .ok (.iconst 0, 1) := by decide +kernel
theorem dX11_spans_25 : decode cX11_spans 25 = .ok (.istore 4, 2) := by decide +kernel
theorem dX11_spans_27 : decode cX11_spans 27 = .ok (.aload_n 0, 1) := by decide +kernel
theorem dX11_spans_28 : decode cX11_spans 28 = .ok (.invokevirtual 366, 3) := by decide +kernel
theorem dX11_spans_31 : decode cX11_spans 31 = .ok (.istore 5, 2) := by decide +kernel
theorem dX11_spans_33 : decode cX11_spans 33 = .ok (.iload 5, 2) := by decide +kernel
theorem dX11_spans_35 : decode cX11_spans 35 = .ok (.ifCond .lt 85, 3) := by decide +kernel
theorem dX11_spans_38 : decode cX11_spans 38 = .ok (.iload 5, 2) := by decide +kernel
theorem dX11_spans_40 : decode cX11_spans 40 = .ok (.ifCond .le 34, 3) := by decide +kernel
theorem dX11_spans_43 : decode cX11_spans 43 = .ok (.aload_n 0, 1) := by decide +kernel
theorem dX11_spans_44 : decode cX11_spans 44 = .ok (.getfield 59, 3) := by decide +kernel
theorem dX11_spans_47 : decode cX11_spans 47 = .ok (.sipush 537, 3) := by decide +kernel
theorem dX11_spans_50 : decode cX11_spans 50 = .ok (.aload_n 0, 1) := by decide +kernel
theorem dX11_spans_51 : decode cX11_spans 51 = .ok (.getfield 59, 3) := by decide +kernel
theorem dX11_spans_54 : decode cX11_spans 54 = .ok (.bipush 6, 2) := by decide +kernel
theorem dX11_spans_56 : decode cX11_spans 56 = .ok (.iaload, 1) := by decide +kernel
theorem dX11_spans_57 : decode cX11_spans 57 = .ok (.iload 5, 2) := by decide +kernel
theorem dX11_spans_59 : decode cX11_spans 59 = .ok (.isub, 1) := by decide +kernel
theorem dX11_spans_60 : decode cX11_spans 60 = .ok (.sipush 128, 3) := by decide +kernel
theorem dX11_spans_63 : decode cX11_spans 63 = .ok (.irem, 1) := by decide +kernel
theorem dX11_spans_64 : decode cX11_spans 64 = .ok (.iadd, 1) := by decide +kernel
theorem dX11_spans_65 : decode cX11_spans 65 = .ok (.iaload, 1) := by decide +kernel
theorem dX11_spans_66 : decode cX11_spans 66 = .ok (.iconst 1, 1) := by decide +kernel
theorem dX11_spans_67 : decode cX11_spans 67 = .ok (.if_icmp .ne 7, 3) := by decide +kernel
theorem dX11_spans_70 : decode cX11_spans 70 = .ok (.iconst 1, 1) := by decide +kernel
theorem dX11_spans_71 : decode cX11_spans 71 = .ok (.goto 4, 3) := by decide +kernel
theorem dX11_spans_74 : decode cX11_spans 74 = .ok (.iconst 0, 1) := by decide +kernel
theorem dX11_spans_75 : decode cX11_spans 75 = .ok (.istore 6, 2) := by decide +kernel
theorem dX11_spans_77 : decode cX11_spans 77 = .ok (.iload 6, 2) := by decide +kernel
theorem dX11_spans_79 : decode cX11_spans 79 = .ok (.ifCond .ne 20, 3) := by decide +kernel
theorem dX11_spans_82 : decode cX11_spans 82 = .ok (.iload 4, 2) := by decide +kernel
theorem dX11_spans_84 : decode cX11_spans 84 = .ok (.iload_n 1, 1) := by decide +kernel
theorem dX11_spans_85 : decode cX11_spans 85 = .ok (.if_icmp .lt 14, 3) := by decide +kernel
theorem dX11_spans_88 : decode cX11_spans 88 = .ok (.iload_n 3, 1) := by decide +kernel
theorem dX11_spans_89 : decode cX11_spans 89 = .ok (.iload_n 2, 1) := by decide +kernel
theorem dX11_spans_90 : decode cX11_spans 90 = .ok (.if_icmp .ne 6, 3) := by decide +kernel
theorem dX11_spans_93 : decode cX11_spans 93 = .ok (.iload 4, 2) := by decide +kernel
theorem dX11_spans_95 : decode cX11_spans 95 = .ok (.ireturn, 1) := by decide +kernel
theorem dX11_spans_96 : decode cX11_spans 96 = .ok (.iinc 3 1, 3) := by decide +kernel
theorem dX11_spans_99 : decode cX11_spans 99 = .ok (.iload 6, 2) := by decide +kernel
theorem dX11_spans_101 : decode cX11_spans 101 = .ok (.ifCond .eq 10, 3) := by decide +kernel
theorem dX11_spans_104 : decode cX11_spans 104 = .ok (.iload 4, 2) := by decide +kernel
theorem dX11_spans_106 : decode cX11_spans 106 = .ok (.iconst 1, 1) := by decide +kernel
theorem dX11_spans_107 : decode cX11_spans 107 = .ok (.iadd, 1) := by decide +kernel
theorem dX11_spans_108 : decode cX11_spans 108 = .ok (.goto 4, 3) := by decide +kernel
theorem dX11_spans_111 : decode cX11_spans 111 = .ok (.iconst 0, 1) := by decide +kernel
theorem dX11_spans_112 : decode cX11_spans 112 = .ok (.istore 4, 2) := by decide +kernel
theorem dX11_spans_114 : decode cX11_spans 114 = .ok (.iinc 5 (-1), 3) := by decide +kernel
theorem dX11_spans_117 : decode cX11_spans 117 = .ok (.goto (-84), 3) := by decide +kernel
theorem dX11_spans_120 : decode cX11_spans 120 = .ok (.iload_n 2, 1) := by decide +kernel
theorem dX11_spans_121 : decode cX11_spans 121 = .ok (.iconst (-1), 1) := by decide +kernel
theorem dX11_spans_122 : decode cX11_spans 122 = .ok (.if_icmp .ne 7, 3) := by decide +kernel
theorem dX11_spans_125 : decode cX11_spans 125 = .ok (.iload_n 3, 1) := by decide +kernel
theorem dX11_spans_126 : decode cX11_spans 126 = .ok (.goto 8, 3) := by decide +kernel
theorem dX11_spans_129 : decode cX11_spans 129 = .ok (.aload_n 0, 1) := by decide +kernel
theorem dX11_spans_130 : decode cX11_spans 130 = .ok (.iconst 1, 1) := by decide +kernel
theorem dX11_spans_131 : decode cX11_spans 131 = .ok (.invokevirtual 250, 3) := by decide +kernel
theorem dX11_spans_134 : decode cX11_spans 134 = .ok (.ireturn, 1) := by decide +kernel
theorem dX11_sampleAt_0 : decode cX11_sampleAt 0 = .ok (.aload_n 0, 1) := by decide +kernel
theorem dX11_sampleAt_1 : decode cX11_sampleAt 1 = .ok (.getfield 59, 3) := by decide +kernel
theorem dX11_sampleAt_4 : decode cX11_sampleAt 4 = .ok (.sipush 281, 3) := by decide +kernel
theorem dX11_sampleAt_7 : decode cX11_sampleAt 7 = .ok (.aload_n 0, 1) := by decide +kernel
theorem dX11_sampleAt_8 : decode cX11_sampleAt 8 = .ok (.getfield 59, 3) := by decide +kernel
theorem dX11_sampleAt_11 : decode cX11_sampleAt 11 = .ok (.bipush 32, 2) := by decide +kernel
theorem dX11_sampleAt_13 : decode cX11_sampleAt 13 = .ok (.iaload, 1) := by decide +kernel
theorem dX11_sampleAt_14 : decode cX11_sampleAt 14 = .ok (.aload_n 0, 1) := by decide +kernel
theorem dX11_sampleAt_15 : decode cX11_sampleAt 15 = .ok (.invokevirtual 355, 3) := by decide +kernel
theorem dX11_sampleAt_18 : decode cX11_sampleAt 18 = .ok (.isub, 1) := by decide +kernel
theorem dX11_sampleAt_19 : decode cX11_sampleAt 19 = .ok (.iload_n 1, 1) := by decide +kernel
theorem dX11_sampleAt_20 : decode cX11_sampleAt 20 = .ok (.iadd, 1) := by decide +kernel
theorem dX11_sampleAt_21 : decode cX11_sampleAt 21 = .ok (.sipush 128, 3) := by decide +kernel
theorem dX11_sampleAt_24 : decode cX11_sampleAt 24 = .ok (.irem, 1) := by decide +kernel
theorem dX11_sampleAt_25 : decode cX11_sampleAt 25 = .ok (.iadd, 1) := by decide +kernel
theorem dX11_sampleAt_26 : decode cX11_sampleAt 26 = .ok (.iaload, 1) := by decide +kernel
theorem dX11_sampleAt_27 : decode cX11_sampleAt 27 = .ok (.ireturn, 1) := by decide +kernel
theorem dX11_sample_0 : decode cX11_sample 0 = .ok (.aload_n 0, 1) := by decide +kernel
theorem dX11_sample_1 : decode cX11_sample 1 = .ok (.invokevirtual 247, 3) := by decide +kernel
theorem dX11_sample_4 : decode cX11_sample 4 = .ok (.iload_n 1, 1) := by decide +kernel
theorem dX11_sample_5 : decode cX11_sample 5 = .ok (.i2l, 1) := by decide +kernel
theorem dX11_sample_6 : decode cX11_sample 6 = .ok (.lconst 0, 1) := by decide +kernel
theorem dX11_sample_7 : decode cX11_sample 7 = .ok (.aload_n 0, 1) := by decide +kernel
theorem dX11_sample_8 : decode cX11_sample 8 = .ok (.invokevirtual 355, 3) := by decide +kernel
theorem dX11_sample_11 : decode cX11_sample 11 = .ok (.iconst 1, 1) := by decide +kernel
theorem dX11_sample_12 : decode cX11_sample 12 = .ok (.isub, 1) := by decide +kernel
theorem dX11_sample_13 : decode cX11_sample 13 = .ok (.i2l, 1) := by decide +kernel
theorem dX11_sample_14 : decode cX11_sample 14 = .ok (.invokestatic 358, 3) := by decide +kernel
theorem dX11_sample_17 : decode cX11_sample 17 = .ok (.ifCond .eq 11, 3) := by decide +kernel
theorem dX11_sample_20 : decode cX11_sample 20 = .ok (.aload_n 0, 1) := by decide +kernel
theorem dX11_sample_21 : decode cX11_sample 21 = .ok (.iload_n 1, 1) := by decide +kernel
theorem dX11_sample_22 : decode cX11_sample 22 = .ok (.invokevirtual 371, 3) := by decide +kernel
theorem dX11_sample_25 : decode cX11_sample 25 = .ok (.goto 8, 3) := by decide +kernel
theorem dX11_sample_28 : decode cX11_sample 28 = .ok (.aload_n 0, 1) := by decide +kernel
theorem dX11_sample_29 : decode cX11_sample 29 = .ok (.iconst 1, 1) := by decide +kernel
theorem dX11_sample_30 : decode cX11_sample 30 = .ok (.invokevirtual 250, 3) := by decide +kernel
theorem dX11_sample_33 : decode cX11_sample 33 = .ok (.ireturn, 1) := by decide +kernel
theorem dX11_rangeOf_0 : decode cX11_rangeOf 0 = .ok (.ldc_w 374, 3) := by decide +kernel
theorem dX11_rangeOf_3 : decode cX11_rangeOf 3 = .ok (.istore_n 3, 1) := by decide +kernel
theorem dX11_rangeOf_4 : decode cX11_rangeOf 4 = .ok (.ldc_w 375, 3) := by decide +kernel
theorem dX11_rangeOf_7 : decode cX11_rangeOf 7 = .ok (.istore 4, 2) := by decide +kernel
theorem dX11_rangeOf_9 : decode cX11_rangeOf 9 = .ok (.iload_n 1, 1) := by decide +kernel
theorem dX11_rangeOf_10 : decode cX11_rangeOf 10 = .ok (.istore 5, 2) := by decide +kernel
theorem dX11_rangeOf_12 : decode cX11_rangeOf 12 = .ok (.iload 5, 2) := by decide +kernel
theorem dX11_rangeOf_14 : decode cX11_rangeOf 14 = .ok (.iload_n 1, 1) := by decide +kernel
theorem dX11_rangeOf_15 : decode cX11_rangeOf 15 = .ok (.iload_n 2, 1) := by decide +kernel
theorem dX11_rangeOf_16 : decode cX11_rangeOf 16 = .ok (.iadd, 1) := by decide +kernel
theorem dX11_rangeOf_17 : decode cX11_rangeOf 17 = .ok (.if_icmp .ge 33, 3) := by decide +kernel
theorem dX11_rangeOf_20 : decode cX11_rangeOf 20 = .ok (.iload_n 3, 1) := by decide +kernel
theorem dX11_rangeOf_21 : decode cX11_rangeOf 21 = .ok (.aload_n 0, 1) := by decide +kernel
theorem dX11_rangeOf_22 : decode cX11_rangeOf 22 = .ok (.iload 5, 2) := by decide +kernel
theorem dX11_rangeOf_24 : decode cX11_rangeOf 24 = .ok (.invokevirtual 371, 3) := by decide +kernel
theorem dX11_rangeOf_27 : decode cX11_rangeOf 27 = .ok (.invokestatic 124, 3) := by decide +kernel
theorem dX11_rangeOf_30 : decode cX11_rangeOf 30 = .ok (.istore_n 3, 1) := by decide +kernel
theorem dX11_rangeOf_31 : decode cX11_rangeOf 31 = .ok (.iload 4, 2) := by decide +kernel
theorem dX11_rangeOf_33 : decode cX11_rangeOf 33 = .ok (.aload_n 0, 1) := by decide +kernel
theorem dX11_rangeOf_34 : decode cX11_rangeOf 34 = .ok (.iload 5, 2) := by decide +kernel
theorem dX11_rangeOf_36 : decode cX11_rangeOf 36 = .ok (.invokevirtual 371, 3) := by decide +kernel
theorem dX11_rangeOf_39 : decode cX11_rangeOf 39 = .ok (.invokestatic 130, 3) := by decide +kernel
theorem dX11_rangeOf_42 : decode cX11_rangeOf 42 = .ok (.istore 4, 2) := by decide +kernel
theorem dX11_rangeOf_44 : decode cX11_rangeOf 44 = .ok (.iinc 5 1, 3) := by decide +kernel
theorem dX11_rangeOf_47 : decode cX11_rangeOf 47 = .ok (.goto (-35), 3) := by decide +kernel
theorem dX11_rangeOf_50 : decode cX11_rangeOf 50 = .ok (.iload 4, 2) := by decide +kernel
theorem dX11_rangeOf_52 : decode cX11_rangeOf 52 = .ok (.iload_n 3, 1) := by decide +kernel
theorem dX11_rangeOf_53 : decode cX11_rangeOf 53 = .ok (.isub, 1) := by decide +kernel
theorem dX11_rangeOf_54 : decode cX11_rangeOf 54 = .ok (.ireturn, 1) := by decide +kernel
theorem dX11_wander_0 : decode cX11_wander 0 = .ok (.aload_n 0, 1) := by decide +kernel
theorem dX11_wander_1 : decode cX11_wander 1 = .ok (.invokevirtual 247, 3) := by decide +kernel
theorem dX11_wander_4 : decode cX11_wander 4 = .ok (.iload_n 1, 1) := by decide +kernel
theorem dX11_wander_5 : decode cX11_wander 5 = .ok (.i2l, 1) := by decide +kernel
theorem dX11_wander_6 : decode cX11_wander 6 = .ok (.ldc2_w 362, 3) := by decide +kernel
theorem dX11_wander_9 : decode cX11_wander 9 = .ok (.ldc2_w 369, 3) := by decide +kernel
theorem dX11_wander_12 : decode cX11_wander 12 = .ok (.invokestatic 358, 3) := by decide +kernel
theorem dX11_wander_15 : decode cX11_wander 15 = .ok (.ifCond .ne 9, 3) := by decide +kernel
theorem dX11_wander_18 : decode cX11_wander 18 = .ok (.aload_n 0, 1) := by decide +kernel
theorem dX11_wander_19 : decode cX11_wander 19 = .ok (.iconst 1, 1) := by decide +kernel
theorem dX11_wander_20 : decode cX11_wander 20 = .ok (.invokevirtual 250, 3) := by decide +kernel
theorem dX11_wander_23 : decode cX11_wander 23 = .ok (.ireturn, 1) := by decide +kernel
theorem dX11_wander_24 : decode cX11_wander 24 = .ok (.aload_n 0, 1) := by decide +kernel
theorem dX11_wander_25 : decode cX11_wander 25 = .ok (.invokevirtual 355, 3) := by decide +kernel
theorem dX11_wander_28 : decode cX11_wander 28 = .ok (.istore_n 2, 1) := by decide +kernel
theorem dX11_wander_29 : decode cX11_wander 29 = .ok (.iload_n 2, 1) := by decide +kernel
theorem dX11_wander_30 : decode cX11_wander 30 = .ok (.iconst 2, 1) := by decide +kernel
theorem dX11_wander_31 : decode cX11_wander 31 = .ok (.if_icmp .ge 5, 3) := by decide +kernel
theorem dX11_wander_34 : decode cX11_wander 34 = .ok (.iconst (-1), 1) := by decide +kernel
theorem dX11_wander_35 : decode cX11_wander 35 = .ok (.ireturn, 1) := by decide +kernel
theorem dX11_wander_36 : decode cX11_wander 36 = .ok (.iload_n 2, 1) := by decide +kernel
theorem dX11_wander_37 : decode cX11_wander 37 = .ok (.iload_n 1, 1) := by decide +kernel
theorem dX11_wander_38 : decode cX11_wander 38 = .ok (.invokestatic 124, 3) := by decide +kernel
theorem dX11_wander_41 : decode cX11_wander 41 = .ok (.istore_n 3, 1) := by decide +kernel
theorem dX11_wander_42 : decode cX11_wander 42 = .ok (.iconst 0, 1) := by decide +kernel
theorem dX11_wander_43 : decode cX11_wander 43 = .ok (.istore 4, 2) := by decide +kernel
theorem dX11_wander_45 : decode cX11_wander 45 = .ok (.iconst 0, 1) := by decide +kernel
theorem dX11_wander_46 : decode cX11_wander 46 = .ok (.istore 5, 2) := by decide +kernel
theorem dX11_wander_48 : decode cX11_wander 48 = .ok (.iload 5, 2) := by decide +kernel
theorem dX11_wander_50 : decode cX11_wander 50 = .ok (.iload_n 3, 1) := by decide +kernel
theorem dX11_wander_51 : decode cX11_wander 51 = .ok (.iadd, 1) := by decide +kernel
theorem dX11_wander_52 : decode cX11_wander 52 = .ok (.iload_n 2, 1) := by decide +kernel
theorem dX11_wander_53 : decode cX11_wander 53 = .ok (.if_icmp .gt 23, 3) := by decide +kernel
theorem dX11_wander_56 : decode cX11_wander 56 = .ok (.iload 4, 2) := by decide +kernel
theorem dX11_wander_58 : decode cX11_wander 58 = .ok (.aload_n 0, 1) := by decide +kernel
theorem dX11_wander_59 : decode cX11_wander 59 = .ok (.iload 5, 2) := by decide +kernel
theorem dX11_wander_61 : decode cX11_wander 61 = .ok (.iload_n 3, 1) := by decide +kernel
theorem dX11_wander_62 : decode cX11_wander 62 = .ok (.invokevirtual 376, 3) := by decide +kernel
theorem dX11_wander_65 : decode cX11_wander 65 = .ok (.invokestatic 130, 3) := by decide +kernel
theorem dX11_wander_68 : decode cX11_wander 68 = .ok (.istore 4, 2) := by decide +kernel
theorem dX11_wander_70 : decode cX11_wander 70 = .ok (.iinc 5 1, 3) := by decide +kernel
theorem dX11_wander_73 : decode cX11_wander 73 = .ok (.goto (-25), 3) := by decide +kernel
theorem dX11_wander_76 : decode cX11_wander 76 = .ok (.iload 4, 2) := by decide +kernel
theorem dX11_wander_78 : decode cX11_wander 78 = .ok (.ireturn, 1) := by decide +kernel
theorem dX11_refuse_0 : decode cX11_refuse 0 = .ok (.aload_n 0, 1) := by decide +kernel
theorem dX11_refuse_1 : decode cX11_refuse 1 = .ok (.getfield 56, 3) := by decide +kernel
theorem dX11_refuse_4 : decode cX11_refuse 4 = .ok (.iload_n 1, 1) := by decide +kernel
theorem dX11_refuse_5 : decode cX11_refuse 5 = .ok (.dup2, 1) := by decide +kernel
theorem dX11_refuse_6 : decode cX11_refuse 6 = .ok (.iaload, 1) := by decide +kernel
theorem dX11_refuse_7 : decode cX11_refuse 7 = .ok (.iconst 1, 1) := by decide +kernel
theorem dX11_refuse_8 : decode cX11_refuse 8 = .ok (.iadd, 1) := by decide +kernel
theorem dX11_refuse_9 : decode cX11_refuse 9 = .ok (.iastore, 1) := by decide +kernel
theorem dX11_refuse_10 : decode cX11_refuse 10 = .ok (.iconst (-1), 1) := by decide +kernel
theorem dX11_refuse_11 : decode cX11_refuse 11 = .ok (.ireturn, 1) := by decide +kernel
theorem dX11_copyTo_0 : decode cX11_copyTo 0 = .ok (.iconst 0, 1) := by decide +kernel
theorem dX11_copyTo_1 : decode cX11_copyTo 1 = .ok (.istore_n 2, 1) := by decide +kernel
theorem dX11_copyTo_2 : decode cX11_copyTo 2 = .ok (.iload_n 2, 1) := by decide +kernel
theorem dX11_copyTo_3 : decode cX11_copyTo 3 = .ok (.aload_n 0, 1) := by decide +kernel
theorem dX11_copyTo_4 : decode cX11_copyTo 4 = .ok (.arraylength, 1) := by decide +kernel
theorem dX11_copyTo_5 : decode cX11_copyTo 5 = .ok (.if_icmp .ge 15, 3) := by decide +kernel
theorem dX11_copyTo_8 : decode cX11_copyTo 8 = .ok (.aload_n 0, 1) := by decide +kernel
theorem dX11_copyTo_9 : decode cX11_copyTo 9 = .ok (.iload_n 2, 1) := by decide +kernel
theorem dX11_copyTo_10 : decode cX11_copyTo 10 = .ok (.aload_n 1, 1) := by decide +kernel
theorem dX11_copyTo_11 : decode cX11_copyTo 11 = .ok (.iload_n 2, 1) := by decide +kernel
theorem dX11_copyTo_12 : decode cX11_copyTo 12 = .ok (.iaload, 1) := by decide +kernel
theorem dX11_copyTo_13 : decode cX11_copyTo 13 = .ok (.iastore, 1) := by decide +kernel
theorem dX11_copyTo_14 : decode cX11_copyTo 14 = .ok (.iinc 2 1, 3) := by decide +kernel
theorem dX11_copyTo_17 : decode cX11_copyTo 17 = .ok (.goto (-15), 3) := by decide +kernel
theorem dX11_copyTo_20 : decode cX11_copyTo 20 = .ok (.return_, 1) := by decide +kernel
theorem dX11_keep_0 : decode cX11_keep 0 = .ok (.aload_n 0, 1) := by decide +kernel
theorem dX11_keep_1 : decode cX11_keep 1 = .ok (.getfield 278, 3) := by decide +kernel
theorem dX11_keep_4 : decode cX11_keep 4 = .ok (.bipush 40, 2) := by decide +kernel
theorem dX11_keep_6 : decode cX11_keep 6 = .ok (.if_icmp .ne 48, 3) := by decide +kernel
theorem dX11_keep_9 : decode cX11_keep 9 = .ok (.sipush 665, 3) := by decide +kernel
theorem dX11_keep_12 : decode cX11_keep 12 = .ok (.istore_n 1, 1) := by decide +kernel
theorem dX11_keep_13 : decode cX11_keep 13 = .ok (.iload_n 1, 1) := by decide +kernel
theorem dX11_keep_14 : decode cX11_keep 14 = .ok (.aload_n 0, 1) := by decide +kernel
theorem dX11_keep_15 : decode cX11_keep 15 = .ok (.getfield 85, 3) := by decide +kernel
theorem dX11_keep_18 : decode cX11_keep 18 = .ok (.arraylength, 1) := by decide +kernel
theorem dX11_keep_19 : decode cX11_keep 19 = .ok (.if_icmp .ge 25, 3) := by decide +kernel
theorem dX11_keep_22 : decode cX11_keep 22 = .ok (.aload_n 0, 1) := by decide +kernel
theorem dX11_keep_23 : decode cX11_keep 23 = .ok (.getfield 85, 3) := by decide +kernel
theorem dX11_keep_26 : decode cX11_keep 26 = .ok (.iload_n 1, 1) := by decide +kernel
theorem dX11_keep_27 : decode cX11_keep 27 = .ok (.sipush 665, 3) := by decide +kernel
theorem dX11_keep_30 : decode cX11_keep 30 = .ok (.isub, 1) := by decide +kernel
theorem dX11_keep_31 : decode cX11_keep 31 = .ok (.aload_n 0, 1) := by decide +kernel
theorem dX11_keep_32 : decode cX11_keep 32 = .ok (.getfield 85, 3) := by decide +kernel
theorem dX11_keep_35 : decode cX11_keep 35 = .ok (.iload_n 1, 1) := by decide +kernel
theorem dX11_keep_36 : decode cX11_keep 36 = .ok (.iaload, 1) := by decide +kernel
theorem dX11_keep_37 : decode cX11_keep 37 = .ok (.iastore, 1) := by decide +kernel
theorem dX11_keep_38 : decode cX11_keep 38 = .ok (.iinc 1 1, 3) := by decide +kernel
theorem dX11_keep_41 : decode cX11_keep 41 = .ok (.goto (-28), 3) := by decide +kernel
theorem dX11_keep_44 : decode cX11_keep 44 = .ok (.aload_n 0, 1) := by decide +kernel
theorem dX11_keep_45 : decode cX11_keep 45 = .ok (.dup, 1) := by decide +kernel
theorem dX11_keep_46 : decode cX11_keep 46 = .ok (.getfield 278, 3) := by decide +kernel
theorem dX11_keep_49 : decode cX11_keep 49 = .ok (.iconst 1, 1) := by decide +kernel
theorem dX11_keep_50 : decode cX11_keep 50 = .ok (.isub, 1) := by decide +kernel
theorem dX11_keep_51 : decode cX11_keep 51 = .ok (.putfield 278, 3) := by decide +kernel
theorem dX11_keep_54 : decode cX11_keep 54 = .ok (.iconst 0, 1) := by decide +kernel
theorem dX11_keep_55 : decode cX11_keep 55 = .ok (.istore_n 1, 1) := by decide +kernel
theorem dX11_keep_56 : decode cX11_keep 56 = .ok (.iload_n 1, 1) := by decide +kernel
theorem dX11_keep_57 : decode cX11_keep 57 = .ok (.sipush 665, 3) := by decide +kernel
theorem dX11_keep_60 : decode cX11_keep 60 = .ok (.if_icmp .ge 30, 3) := by decide +kernel
theorem dX11_keep_63 : decode cX11_keep 63 = .ok (.aload_n 0, 1) := by decide +kernel
theorem dX11_keep_64 : decode cX11_keep 64 = .ok (.getfield 85, 3) := by decide +kernel
theorem dX11_keep_67 : decode cX11_keep 67 = .ok (.sipush 665, 3) := by decide +kernel
theorem dX11_keep_70 : decode cX11_keep 70 = .ok (.aload_n 0, 1) := by decide +kernel
theorem dX11_keep_71 : decode cX11_keep 71 = .ok (.getfield 278, 3) := by decide +kernel
theorem dX11_keep_74 : decode cX11_keep 74 = .ok (.imul, 1) := by decide +kernel
theorem dX11_keep_75 : decode cX11_keep 75 = .ok (.iload_n 1, 1) := by decide +kernel
theorem dX11_keep_76 : decode cX11_keep 76 = .ok (.iadd, 1) := by decide +kernel
theorem dX11_keep_77 : decode cX11_keep 77 = .ok (.aload_n 0, 1) := by decide +kernel
theorem dX11_keep_78 : decode cX11_keep 78 = .ok (.getfield 59, 3) := by decide +kernel
theorem dX11_keep_81 : decode cX11_keep 81 = .ok (.iload_n 1, 1) := by decide +kernel
theorem dX11_keep_82 : decode cX11_keep 82 = .ok (.iaload, 1) := by decide +kernel
theorem dX11_keep_83 : decode cX11_keep 83 = .ok (.iastore, 1) := by decide +kernel
theorem dX11_keep_84 : decode cX11_keep 84 = .ok (.iinc 1 1, 3) := by decide +kernel
theorem dX11_keep_87 : decode cX11_keep 87 = .ok (.goto (-31), 3) := by decide +kernel
theorem dX11_keep_90 : decode cX11_keep 90 = .ok (.aload_n 0, 1) := by decide +kernel
theorem dX11_keep_91 : decode cX11_keep 91 = .ok (.dup, 1) := by decide +kernel
theorem dX11_keep_92 : decode cX11_keep 92 = .ok (.getfield 278, 3) := by decide +kernel
theorem dX11_keep_95 : decode cX11_keep 95 = .ok (.iconst 1, 1) := by decide +kernel
theorem dX11_keep_96 : decode cX11_keep 96 = .ok (.iadd, 1) := by decide +kernel
theorem dX11_keep_97 : decode cX11_keep 97 = .ok (.putfield 278, 3) := by decide +kernel
theorem dX11_keep_100 : decode cX11_keep 100 = .ok (.return_, 1) := by decide +kernel
theorem dX11_steps_0 : decode cX11_steps 0 = .ok (.aload_n 0, 1) := by decide +kernel
theorem dX11_steps_1 : decode cX11_steps 1 = .ok (.invokevirtual 247, 3) := by decide +kernel
theorem dX11_steps_4 : decode cX11_steps 4 = .ok (.iload_n 1, 1) := by decide +kernel
theorem dX11_steps_5 : decode cX11_steps 5 = .ok (.i2l, 1) := by decide +kernel
theorem dX11_steps_6 : decode cX11_steps 6 = .ok (.lconst 1, 1) := by decide +kernel
theorem dX11_steps_7 : decode cX11_steps 7 = .ok (.ldc2_w 379, 3) := by decide +kernel
theorem dX11_steps_10 : decode cX11_steps 10 = .ok (.invokestatic 358, 3) := by decide +kernel
theorem dX11_steps_13 : decode cX11_steps 13 = .ok (.ifCond .eq 17, 3) := by decide +kernel
theorem dX11_steps_16 : decode cX11_steps 16 = .ok (.aload_n 0, 1) := by decide +kernel
theorem dX11_steps_17 : decode cX11_steps 17 = .ok (.getfield 59, 3) := by decide +kernel
theorem dX11_steps_20 : decode cX11_steps 20 = .ok (.iconst 0, 1) := by decide +kernel
theorem dX11_steps_21 : decode cX11_steps 21 = .ok (.iaload, 1) := by decide +kernel
theorem dX11_steps_22 : decode cX11_steps 22 = .ok (.iload_n 1, 1) := by decide +kernel
theorem dX11_steps_23 : decode cX11_steps 23 = .ok (.iadd, 1) := by decide +kernel
theorem dX11_steps_24 : decode cX11_steps 24 = .ok (.sipush 20000, 3) := by decide +kernel
theorem dX11_steps_27 : decode cX11_steps 27 = .ok (.if_icmp .le 9, 3) := by decide +kernel
theorem dX11_steps_30 : decode cX11_steps 30 = .ok (.aload_n 0, 1) := by decide +kernel
theorem dX11_steps_31 : decode cX11_steps 31 = .ok (.iconst 1, 1) := by decide +kernel
theorem dX11_steps_32 : decode cX11_steps 32 = .ok (.invokevirtual 381, 3) := by decide +kernel
theorem dX11_steps_35 : decode cX11_steps 35 = .ok (.ireturn, 1) := by decide +kernel
theorem dX11_steps_36 : decode cX11_steps 36 = .ok (.aload_n 0, 1) := by decide +kernel
theorem dX11_steps_37 : decode cX11_steps 37 = .ok (.invokevirtual 384, 3) := by decide +kernel
theorem dX11_steps_40 : decode cX11_steps 40 = .ok (.aload_n 0, 1) := by decide +kernel
theorem dX11_steps_41 : decode cX11_steps 41 = .ok (.iload_n 1, 1) := by decide +kernel
theorem dX11_steps_42 : decode cX11_steps 42 = .ok (.invokevirtual 387, 3) := by decide +kernel
theorem dX11_steps_45 : decode cX11_steps 45 = .ok (.aload_n 0, 1) := by decide +kernel
theorem dX11_steps_46 : decode cX11_steps 46 = .ok (.getfield 59, 3) := by decide +kernel
theorem dX11_steps_49 : decode cX11_steps 49 = .ok (.iconst 0, 1) := by decide +kernel
theorem dX11_steps_50 : decode cX11_steps 50 = .ok (.iaload, 1) := by decide +kernel
theorem dX11_steps_51 : decode cX11_steps 51 = .ok (.ireturn, 1) := by decide +kernel
theorem dX11_turnTo_0 : decode cX11_turnTo 0 = .ok (.aload_n 0, 1) := by decide +kernel
theorem dX11_turnTo_1 : decode cX11_turnTo 1 = .ok (.getfield 59, 3) := by decide +kernel
theorem dX11_turnTo_4 : decode cX11_turnTo 4 = .ok (.iload_n 1, 1) := by decide +kernel
theorem dX11_turnTo_5 : decode cX11_turnTo 5 = .ok (.iaload, 1) := by decide +kernel
theorem dX11_turnTo_6 : decode cX11_turnTo 6 = .ok (.istore 6, 2) := by decide +kernel
theorem dX11_turnTo_8 : decode cX11_turnTo 8 = .ok (.iload_n 2, 1) := by decide +kernel
theorem dX11_turnTo_9 : decode cX11_turnTo 9 = .ok (.i2l, 1) := by decide +kernel
theorem dX11_turnTo_10 : decode cX11_turnTo 10 = .ok (.iload_n 3, 1) := by decide +kernel
theorem dX11_turnTo_11 : decode cX11_turnTo 11 = .ok (.i2l, 1) := by decide +kernel
theorem dX11_turnTo_12 : decode cX11_turnTo 12 = .ok (.iload 4, 2) := by decide +kernel
theorem dX11_turnTo_14 : decode cX11_turnTo 14 = .ok (.i2l, 1) := by decide +kernel
theorem dX11_turnTo_15 : decode cX11_turnTo 15 = .ok (.invokestatic 358, 3) := by decide +kernel
theorem dX11_turnTo_18 : decode cX11_turnTo 18 = .ok (.ifCond .eq 9, 3) := by decide +kernel
theorem dX11_turnTo_21 : decode cX11_turnTo 21 = .ok (.iload_n 2, 1) := by decide +kernel
theorem dX11_turnTo_22 : decode cX11_turnTo 22 = .ok (.iload 6, 2) := by decide +kernel
theorem dX11_turnTo_24 : decode cX11_turnTo 24 = .ok (.if_icmp .ne 12, 3) := by decide +kernel
theorem dX11_turnTo_27 : decode cX11_turnTo 27 = .ok (.aload_n 0, 1) := by decide +kernel
theorem dX11_turnTo_28 : decode cX11_turnTo 28 = .ok (.iconst 1, 1) := by decide +kernel
theorem dX11_turnTo_29 : decode cX11_turnTo 29 = .ok (.invokevirtual 381, 3) := by decide +kernel
theorem dX11_turnTo_32 : decode cX11_turnTo 32 = .ok (.pop, 1) := by decide +kernel
theorem dX11_turnTo_33 : decode cX11_turnTo 33 = .ok (.iload 5, 2) := by decide +kernel
theorem dX11_turnTo_35 : decode cX11_turnTo 35 = .ok (.ireturn, 1) := by decide +kernel
theorem dX11_turnTo_36 : decode cX11_turnTo 36 = .ok (.aload_n 0, 1) := by decide +kernel
theorem dX11_turnTo_37 : decode cX11_turnTo 37 = .ok (.invokevirtual 384, 3) := by decide +kernel
theorem dX11_turnTo_40 : decode cX11_turnTo 40 = .ok (.aload_n 0, 1) := by decide +kernel
theorem dX11_turnTo_41 : decode cX11_turnTo 41 = .ok (.getfield 59, 3) := by decide +kernel
theorem dX11_turnTo_44 : decode cX11_turnTo 44 = .ok (.iload_n 1, 1) := by decide +kernel
theorem dX11_turnTo_45 : decode cX11_turnTo 45 = .ok (.iload_n 2, 1) := by decide +kernel
theorem dX11_turnTo_46 : decode cX11_turnTo 46 = .ok (.iastore, 1) := by decide +kernel
theorem dX11_turnTo_47 : decode cX11_turnTo 47 = .ok (.iload 6, 2) := by decide +kernel
theorem dX11_turnTo_49 : decode cX11_turnTo 49 = .ok (.ireturn, 1) := by decide +kernel
theorem dX11_lose_0 : decode cX11_lose 0 = .ok (.aload_n 0, 1) := by decide +kernel
theorem dX11_lose_1 : decode cX11_lose 1 = .ok (.invokevirtual 247, 3) := by decide +kernel
theorem dX11_lose_4 : decode cX11_lose 4 = .ok (.aload_n 0, 1) := by decide +kernel
theorem dX11_lose_5 : decode cX11_lose 5 = .ok (.bipush 25, 2) := by decide +kernel
theorem dX11_lose_7 : decode cX11_lose 7 = .ok (.iload_n 1, 1) := by decide +kernel
theorem dX11_lose_8 : decode cX11_lose 8 = .ok (.iconst 0, 1) := by decide +kernel
theorem dX11_lose_9 : decode cX11_lose 9 = .ok (.bipush 20, 2) := by decide +kernel
theorem dX11_lose_11 : decode cX11_lose 11 = .ok (.iconst (-1), 1) := by decide +kernel
theorem dX11_lose_12 : decode cX11_lose 12 = .ok (.invokevirtual 390, 3) := by decide +kernel
theorem dX11_lose_15 : decode cX11_lose 15 = .ok (.ireturn, 1) := by decide +kernel
theorem dX11_stall_0 : decode cX11_stall 0 = .ok (.aload_n 0, 1) := by decide +kernel
theorem dX11_stall_1 : decode cX11_stall 1 = .ok (.invokevirtual 247, 3) := by decide +kernel
theorem dX11_stall_4 : decode cX11_stall 4 = .ok (.aload_n 0, 1) := by decide +kernel
theorem dX11_stall_5 : decode cX11_stall 5 = .ok (.bipush 26, 2) := by decide +kernel
theorem dX11_stall_7 : decode cX11_stall 7 = .ok (.iload_n 1, 1) := by decide +kernel
theorem dX11_stall_8 : decode cX11_stall 8 = .ok (.iconst 0, 1) := by decide +kernel
theorem dX11_stall_9 : decode cX11_stall 9 = .ok (.bipush 30, 2) := by decide +kernel
theorem dX11_stall_11 : decode cX11_stall 11 = .ok (.iconst (-1), 1) := by decide +kernel
theorem dX11_stall_12 : decode cX11_stall 12 = .ok (.invokevirtual 390, 3) := by decide +kernel
theorem dX11_stall_15 : decode cX11_stall 15 = .ok (.ireturn, 1) := by decide +kernel
theorem dX11_turn_0 : decode cX11_turn 0 = .ok (.aload_n 0, 1) := by decide +kernel
theorem dX11_turn_1 : decode cX11_turn 1 = .ok (.invokevirtual 247, 3) := by decide +kernel
theorem dX11_turn_4 : decode cX11_turn 4 = .ok (.iload_n 1, 1) := by decide +kernel
theorem dX11_turn_5 : decode cX11_turn 5 = .ok (.tableswitch 69 0 2 #[27, 42, 55], 27) := by decide +kernel
theorem dX11_turn_32 : decode cX11_turn 32 = .ok (.aload_n 0, 1) := by decide +kernel
theorem dX11_turn_33 : decode cX11_turn 33 = .ok (.bipush 27, 2) := by decide +kernel
theorem dX11_turn_35 : decode cX11_turn 35 = .ok (.iload_n 2, 1) := by decide +kernel
theorem dX11_turn_36 : decode cX11_turn 36 = .ok (.bipush (-99), 2) := by decide +kernel
theorem dX11_turn_38 : decode cX11_turn 38 = .ok (.bipush 99, 2) := by decide +kernel
theorem dX11_turn_40 : decode cX11_turn 40 = .ok (.sipush 10000, 3) := by decide +kernel
theorem dX11_turn_43 : decode cX11_turn 43 = .ok (.invokevirtual 390, 3) := by decide +kernel
theorem dX11_turn_46 : decode cX11_turn 46 = .ok (.ireturn, 1) := by decide +kernel
theorem dX11_turn_47 : decode cX11_turn 47 = .ok (.aload_n 0, 1) := by decide +kernel
theorem dX11_turn_48 : decode cX11_turn 48 = .ok (.bipush 28, 2) := by decide +kernel
theorem dX11_turn_50 : decode cX11_turn 50 = .ok (.iload_n 2, 1) := by decide +kernel
theorem dX11_turn_51 : decode cX11_turn 51 = .ok (.iconst 0, 1) := by decide +kernel
theorem dX11_turn_52 : decode cX11_turn 52 = .ok (.iconst 2, 1) := by decide +kernel
theorem dX11_turn_53 : decode cX11_turn 53 = .ok (.sipush 10000, 3) := by decide +kernel
theorem dX11_turn_56 : decode cX11_turn 56 = .ok (.invokevirtual 390, 3) := by decide +kernel
theorem dX11_turn_59 : decode cX11_turn 59 = .ok (.ireturn, 1) := by decide +kernel
theorem dX11_turn_60 : decode cX11_turn 60 = .ok (.aload_n 0, 1) := by decide +kernel
theorem dX11_turn_61 : decode cX11_turn 61 = .ok (.bipush 29, 2) := by decide +kernel
theorem dX11_turn_63 : decode cX11_turn 63 = .ok (.iload_n 2, 1) := by decide +kernel
theorem dX11_turn_64 : decode cX11_turn 64 = .ok (.iconst 1, 1) := by decide +kernel
theorem dX11_turn_65 : decode cX11_turn 65 = .ok (.bipush 64, 2) := by decide +kernel
theorem dX11_turn_67 : decode cX11_turn 67 = .ok (.sipush 10000, 3) := by decide +kernel
theorem dX11_turn_70 : decode cX11_turn 70 = .ok (.invokevirtual 390, 3) := by decide +kernel
theorem dX11_turn_73 : decode cX11_turn 73 = .ok (.ireturn, 1) := by decide +kernel
theorem dX11_turn_74 : decode cX11_turn 74 = .ok (.aload_n 0, 1) := by decide +kernel
theorem dX11_turn_75 : decode cX11_turn 75 = .ok (.iconst 1, 1) := by decide +kernel
theorem dX11_turn_76 : decode cX11_turn 76 = .ok (.invokevirtual 250, 3) := by decide +kernel
theorem dX11_turn_79 : decode cX11_turn 79 = .ok (.ireturn, 1) := by decide +kernel
theorem dX11_undo_0 : decode cX11_undo 0 = .ok (.aload_n 0, 1) := by decide +kernel
theorem dX11_undo_1 : decode cX11_undo 1 = .ok (.invokevirtual 247, 3) := by decide +kernel
theorem dX11_undo_4 : decode cX11_undo 4 = .ok (.aload_n 0, 1) := by decide +kernel
theorem dX11_undo_5 : decode cX11_undo 5 = .ok (.getfield 278, 3) := by decide +kernel
theorem dX11_undo_8 : decode cX11_undo 8 = .ok (.ifCond .ne 5, 3) := by decide +kernel
theorem dX11_undo_11 : decode cX11_undo 11 = .ok (.iconst (-1), 1) := by decide +kernel
theorem dX11_undo_12 : decode cX11_undo 12 = .ok (.ireturn, 1) := by decide +kernel
theorem dX11_undo_13 : decode cX11_undo 13 = .ok (.aload_n 0, 1) := by decide +kernel
theorem dX11_undo_14 : decode cX11_undo 14 = .ok (.dup, 1) := by decide +kernel
theorem dX11_undo_15 : decode cX11_undo 15 = .ok (.getfield 278, 3) := by decide +kernel
theorem dX11_undo_18 : decode cX11_undo 18 = .ok (.iconst 1, 1) := by decide +kernel
theorem dX11_undo_19 : decode cX11_undo 19 = .ok (.isub, 1) := by decide +kernel
theorem dX11_undo_20 : decode cX11_undo 20 = .ok (.putfield 278, 3) := by decide +kernel
theorem dX11_undo_23 : decode cX11_undo 23 = .ok (.iconst 0, 1) := by decide +kernel
theorem dX11_undo_24 : decode cX11_undo 24 = .ok (.istore_n 1, 1) := by decide +kernel
theorem dX11_undo_25 : decode cX11_undo 25 = .ok (.iload_n 1, 1) := by decide +kernel
theorem dX11_undo_26 : decode cX11_undo 26 = .ok (.sipush 665, 3) := by decide +kernel
theorem dX11_undo_29 : decode cX11_undo 29 = .ok (.if_icmp .ge 30, 3) := by decide +kernel
theorem dX11_undo_32 : decode cX11_undo 32 = .ok (.aload_n 0, 1) := by decide +kernel
theorem dX11_undo_33 : decode cX11_undo 33 = .ok (.getfield 59, 3) := by decide +kernel
theorem dX11_undo_36 : decode cX11_undo 36 = .ok (.iload_n 1, 1) := by decide +kernel
theorem dX11_undo_37 : decode cX11_undo 37 = .ok (.aload_n 0, 1) := by decide +kernel
theorem dX11_undo_38 : decode cX11_undo 38 = .ok (.getfield 85, 3) := by decide +kernel
theorem dX11_undo_41 : decode cX11_undo 41 = .ok (.sipush 665, 3) := by decide +kernel
theorem dX11_undo_44 : decode cX11_undo 44 = .ok (.aload_n 0, 1) := by decide +kernel
theorem dX11_undo_45 : decode cX11_undo 45 = .ok (.getfield 278, 3) := by decide +kernel
theorem dX11_undo_48 : decode cX11_undo 48 = .ok (.imul, 1) := by decide +kernel
theorem dX11_undo_49 : decode cX11_undo 49 = .ok (.iload_n 1, 1) := by decide +kernel
theorem dX11_undo_50 : decode cX11_undo 50 = .ok (.iadd, 1) := by decide +kernel
theorem dX11_undo_51 : decode cX11_undo 51 = .ok (.iaload, 1) := by decide +kernel
theorem dX11_undo_52 : decode cX11_undo 52 = .ok (.iastore, 1) := by decide +kernel
theorem dX11_undo_53 : decode cX11_undo 53 = .ok (.iinc 1 1, 3) := by decide +kernel
theorem dX11_undo_56 : decode cX11_undo 56 = .ok (.goto (-31), 3) := by decide +kernel
theorem dX11_undo_59 : decode cX11_undo 59 = .ok (.aload_n 0, 1) := by decide +kernel
theorem dX11_undo_60 : decode cX11_undo 60 = .ok (.getfield 278, 3) := by decide +kernel
theorem dX11_undo_63 : decode cX11_undo 63 = .ok (.ireturn, 1) := by decide +kernel
theorem dX11_rememberNow_0 : decode cX11_rememberNow 0 = .ok (.aload_n 0, 1) := by decide +kernel
theorem dX11_rememberNow_1 : decode cX11_rememberNow 1 = .ok (.getfield 88, 3) := by decide +kernel
theorem dX11_rememberNow_4 : decode cX11_rememberNow 4 = .ok (.aload_n 0, 1) := by decide +kernel
theorem dX11_rememberNow_5 : decode cX11_rememberNow 5 = .ok (.getfield 59, 3) := by decide +kernel
theorem dX11_rememberNow_8 : decode cX11_rememberNow 8 = .ok (.invokestatic 394, 3) := by decide +kernel
theorem dX11_rememberNow_11 : decode cX11_rememberNow 11 = .ok (.return_, 1) := by decide +kernel
theorem dX11_back_0 : decode cX11_back 0 = .ok (.aload_n 0, 1) := by decide +kernel
theorem dX11_back_1 : decode cX11_back 1 = .ok (.getfield 59, 3) := by decide +kernel
theorem dX11_back_4 : decode cX11_back 4 = .ok (.aload_n 0, 1) := by decide +kernel
theorem dX11_back_5 : decode cX11_back 5 = .ok (.getfield 88, 3) := by decide +kernel
theorem dX11_back_8 : decode cX11_back 8 = .ok (.invokestatic 394, 3) := by decide +kernel
theorem dX11_back_11 : decode cX11_back 11 = .ok (.iload_n 1, 1) := by decide +kernel
theorem dX11_back_12 : decode cX11_back 12 = .ok (.ireturn, 1) := by decide +kernel
theorem dX11_then_0 : decode cX11_then 0 = .ok (.aload_n 0, 1) := by decide +kernel
theorem dX11_then_1 : decode cX11_then 1 = .ok (.invokevirtual 247, 3) := by decide +kernel
theorem dX11_then_4 : decode cX11_then 4 = .ok (.iload_n 2, 1) := by decide +kernel
theorem dX11_then_5 : decode cX11_then 5 = .ok (.i2l, 1) := by decide +kernel
theorem dX11_then_6 : decode cX11_then 6 = .ok (.lconst 0, 1) := by decide +kernel
theorem dX11_then_7 : decode cX11_then 7 = .ok (.ldc2_w 398, 3) := by decide +kernel
theorem dX11_then_10 : decode cX11_then 10 = .ok (.invokestatic 358, 3) := by decide +kernel
theorem dX11_then_13 : decode cX11_then 13 = .ok (.ifCond .ne 9, 3) := by decide +kernel
theorem dX11_then_16 : decode cX11_then 16 = .ok (.aload_n 0, 1) := by decide +kernel
theorem dX11_then_17 : decode cX11_then 17 = .ok (.iconst 1, 1) := by decide +kernel
theorem dX11_then_18 : decode cX11_then 18 = .ok (.invokevirtual 250, 3) := by decide +kernel
theorem dX11_then_21 : decode cX11_then 21 = .ok (.ireturn, 1) := by decide +kernel
theorem dX11_then_22 : decode cX11_then 22 = .ok (.iload_n 1, 1) := by decide +kernel
theorem dX11_then_23 : decode cX11_then 23 = .ok (.i2l, 1) := by decide +kernel
theorem dX11_then_24 : decode cX11_then 24 = .ok (.lconst 0, 1) := by decide +kernel
theorem dX11_then_25 : decode cX11_then 25 = .ok (.ldc2_w 400, 3) := by decide +kernel
theorem dX11_then_28 : decode cX11_then 28 = .ok (.invokestatic 358, 3) := by decide +kernel
theorem dX11_then_31 : decode cX11_then 31 = .ok (.ifCond .ne 9, 3) := by decide +kernel
theorem dX11_then_34 : decode cX11_then 34 = .ok (.aload_n 0, 1) := by decide +kernel
theorem dX11_then_35 : decode cX11_then 35 = .ok (.iconst 2, 1) := by decide +kernel
theorem dX11_then_36 : decode cX11_then 36 = .ok (.invokevirtual 250, 3) := by decide +kernel
theorem dX11_then_39 : decode cX11_then 39 = .ok (.ireturn, 1) := by decide +kernel
theorem dX11_then_40 : decode cX11_then 40 = .ok (.aload_n 0, 1) := by decide +kernel
theorem dX11_then_41 : decode cX11_then 41 = .ok (.invokevirtual 402, 3) := by decide +kernel
theorem dX11_then_44 : decode cX11_then 44 = .ok (.aload_n 0, 1) := by decide +kernel
theorem dX11_then_45 : decode cX11_then 45 = .ok (.iload_n 1, 1) := by decide +kernel
theorem dX11_then_46 : decode cX11_then 46 = .ok (.invokevirtual 387, 3) := by decide +kernel
theorem dX11_then_49 : decode cX11_then 49 = .ok (.aload_n 0, 1) := by decide +kernel
theorem dX11_then_50 : decode cX11_then 50 = .ok (.iload_n 2, 1) := by decide +kernel
theorem dX11_then_51 : decode cX11_then 51 = .ok (.ifCond .ne 10, 3) := by decide +kernel
theorem dX11_then_54 : decode cX11_then 54 = .ok (.aload_n 0, 1) := by decide +kernel
theorem dX11_then_55 : decode cX11_then 55 = .ok (.invokevirtual 325, 3) := by decide +kernel
theorem dX11_then_58 : decode cX11_then 58 = .ok (.goto 49, 3) := by decide +kernel
theorem dX11_then_61 : decode cX11_then 61 = .ok (.aload_n 0, 1) := by decide +kernel
theorem dX11_then_62 : decode cX11_then 62 = .ok (.getfield 59, 3) := by decide +kernel
theorem dX11_then_65 : decode cX11_then 65 = .ok (.iload_n 2, 1) := by decide +kernel
theorem dX11_then_66 : decode cX11_then 66 = .ok (.iconst 1, 1) := by decide +kernel
theorem dX11_then_67 : decode cX11_then 67 = .ok (.if_icmp .ne 8, 3) := by decide +kernel
theorem dX11_then_70 : decode cX11_then 70 = .ok (.bipush 9, 2) := by decide +kernel
theorem dX11_then_72 : decode cX11_then 72 = .ok (.goto 34, 3) := by decide +kernel
theorem dX11_then_75 : decode cX11_then 75 = .ok (.iload_n 2, 1) := by decide +kernel
theorem dX11_then_76 : decode cX11_then 76 = .ok (.iconst 2, 1) := by decide +kernel
theorem dX11_then_77 : decode cX11_then 77 = .ok (.if_icmp .ne 8, 3) := by decide +kernel
theorem dX11_then_80 : decode cX11_then 80 = .ok (.bipush 8, 2) := by decide +kernel
theorem dX11_then_82 : decode cX11_then 82 = .ok (.goto 24, 3) := by decide +kernel
theorem dX11_then_85 : decode cX11_then 85 = .ok (.iload_n 2, 1) := by decide +kernel
theorem dX11_then_86 : decode cX11_then 86 = .ok (.iconst 3, 1) := by decide +kernel
theorem dX11_then_87 : decode cX11_then 87 = .ok (.if_icmp .ne 8, 3) := by decide +kernel
theorem dX11_then_90 : decode cX11_then 90 = .ok (.bipush 6, 2) := by decide +kernel
theorem dX11_then_92 : decode cX11_then 92 = .ok (.goto 14, 3) := by decide +kernel
theorem dX11_then_95 : decode cX11_then 95 = .ok (.iload_n 2, 1) := by decide +kernel
theorem dX11_then_96 : decode cX11_then 96 = .ok (.iconst 4, 1) := by decide +kernel
theorem dX11_then_97 : decode cX11_then 97 = .ok (.if_icmp .ne 8, 3) := by decide +kernel
theorem dX11_then_100 : decode cX11_then 100 = .ok (.bipush 7, 2) := by decide +kernel
theorem dX11_then_102 : decode cX11_then 102 = .ok (.goto 4, 3) := by decide +kernel
theorem dX11_then_105 : decode cX11_then 105 = .ok (.iconst 4, 1) := by decide +kernel
theorem dX11_then_106 : decode cX11_then 106 = .ok (.iaload, 1) := by decide +kernel
theorem dX11_then_107 : decode cX11_then 107 = .ok (.invokevirtual 405, 3) := by decide +kernel
theorem dX11_then_110 : decode cX11_then 110 = .ok (.ireturn, 1) := by decide +kernel
theorem dX11_isOnce_0 : decode cX11_isOnce 0 = .ok (.iload_n 1, 1) := by decide +kernel
theorem dX11_isOnce_1 : decode cX11_isOnce 1 = .ok (.ifCond .ne 20, 3) := by decide +kernel
theorem dX11_isOnce_4 : decode cX11_isOnce 4 = .ok (.aload_n 0, 1) := by decide +kernel
theorem dX11_isOnce_5 : decode cX11_isOnce 5 = .ok (.getfield 59, 3) := by decide +kernel
theorem dX11_isOnce_8 : decode cX11_isOnce 8 = .ok (.bipush 8, 2) := by decide +kernel
theorem dX11_isOnce_10 : decode cX11_isOnce 10 = .ok (.iaload, 1) := by decide +kernel
theorem dX11_isOnce_11 : decode cX11_isOnce 11 = .ok (.iconst 2, 1) := by decide +kernel
theorem dX11_isOnce_12 : decode cX11_isOnce 12 = .ok (.if_icmp .ne 7, 3) := by decide +kernel
theorem dX11_isOnce_15 : decode cX11_isOnce 15 = .ok (.iconst 1, 1) := by decide +kernel
theorem dX11_isOnce_16 : decode cX11_isOnce 16 = .ok (.goto 4, 3) := by decide +kernel
theorem dX11_isOnce_19 : decode cX11_isOnce 19 = .ok (.iconst 0, 1) := by decide +kernel
theorem dX11_isOnce_20 : decode cX11_isOnce 20 = .ok (.ireturn, 1) := by decide +kernel
theorem dX11_isOnce_21 : decode cX11_isOnce 21 = .ok (.iload_n 1, 1) := by decide +kernel
theorem dX11_isOnce_22 : decode cX11_isOnce 22 = .ok (.iconst 1, 1) := by decide +kernel
theorem dX11_isOnce_23 : decode cX11_isOnce 23 = .ok (.if_icmp .ne 26, 3) := by decide +kernel
theorem dX11_isOnce_26 : decode cX11_isOnce 26 = .ok (.aload_n 0, 1) := by decide +kernel
theorem dX11_isOnce_27 : decode cX11_isOnce 27 = .ok (.getfield 59, 3) := by decide +kernel
theorem dX11_isOnce_30 : decode cX11_isOnce 30 = .ok (.bipush 7, 2) := by decide +kernel
theorem dX11_isOnce_32 : decode cX11_isOnce 32 = .ok (.iaload, 1) := by decide +kernel
theorem dX11_isOnce_33 : decode cX11_isOnce 33 = .ok (.aload_n 0, 1) := by decide +kernel
theorem dX11_isOnce_34 : decode cX11_isOnce 34 = .ok (.getfield 88, 3) := by decide +kernel
theorem dX11_isOnce_37 : decode cX11_isOnce 37 = .ok (.bipush 7, 2) := by decide +kernel
theorem dX11_isOnce_39 : decode cX11_isOnce 39 = .ok (.iaload, 1) := by decide +kernel
theorem dX11_isOnce_40 : decode cX11_isOnce 40 = .ok (.if_icmp .le 7, 3) := by decide +kernel
theorem dX11_isOnce_43 : decode cX11_isOnce 43 = .ok (.iconst 1, 1) := by decide +kernel
theorem dX11_isOnce_44 : decode cX11_isOnce 44 = .ok (.goto 4, 3) := by decide +kernel
theorem dX11_isOnce_47 : decode cX11_isOnce 47 = .ok (.iconst 0, 1) := by decide +kernel
theorem dX11_isOnce_48 : decode cX11_isOnce 48 = .ok (.ireturn, 1) := by decide +kernel
theorem dX11_isOnce_49 : decode cX11_isOnce 49 = .ok (.iload_n 1, 1) := by decide +kernel
theorem dX11_isOnce_50 : decode cX11_isOnce 50 = .ok (.iconst 2, 1) := by decide +kernel
theorem dX11_isOnce_51 : decode cX11_isOnce 51 = .ok (.if_icmp .ne 40, 3) := by decide +kernel
theorem dX11_isOnce_54 : decode cX11_isOnce 54 = .ok (.aload_n 0, 1) := by decide +kernel
theorem dX11_isOnce_55 : decode cX11_isOnce 55 = .ok (.getfield 59, 3) := by decide +kernel
theorem dX11_isOnce_58 : decode cX11_isOnce 58 = .ok (.iconst 4, 1) := by decide +kernel
theorem dX11_isOnce_59 : decode cX11_isOnce 59 = .ok (.iaload, 1) := by decide +kernel
theorem dX11_isOnce_60 : decode cX11_isOnce 60 = .ok (.aload_n 0, 1) := by decide +kernel
theorem dX11_isOnce_61 : decode cX11_isOnce 61 = .ok (.getfield 59, 3) := by decide +kernel
theorem dX11_isOnce_64 : decode cX11_isOnce 64 = .ok (.iconst 5, 1) := by decide +kernel
theorem dX11_isOnce_65 : decode cX11_isOnce 65 = .ok (.iaload, 1) := by decide +kernel
theorem dX11_isOnce_66 : decode cX11_isOnce 66 = .ok (.iadd, 1) := by decide +kernel
theorem dX11_isOnce_67 : decode cX11_isOnce 67 = .ok (.aload_n 0, 1) := by decide +kernel
theorem dX11_isOnce_68 : decode cX11_isOnce 68 = .ok (.getfield 88, 3) := by decide +kernel
theorem dX11_isOnce_71 : decode cX11_isOnce 71 = .ok (.iconst 4, 1) := by decide +kernel
theorem dX11_isOnce_72 : decode cX11_isOnce 72 = .ok (.iaload, 1) := by decide +kernel
theorem dX11_isOnce_73 : decode cX11_isOnce 73 = .ok (.aload_n 0, 1) := by decide +kernel
theorem dX11_isOnce_74 : decode cX11_isOnce 74 = .ok (.getfield 88, 3) := by decide +kernel
theorem dX11_isOnce_77 : decode cX11_isOnce 77 = .ok (.iconst 5, 1) := by decide +kernel
theorem dX11_isOnce_78 : decode cX11_isOnce 78 = .ok (.iaload, 1) := by decide +kernel
theorem dX11_isOnce_79 : decode cX11_isOnce 79 = .ok (.iadd, 1) := by decide +kernel
theorem dX11_isOnce_80 : decode cX11_isOnce 80 = .ok (.if_icmp .le 7, 3) := by decide +kernel
theorem dX11_isOnce_83 : decode cX11_isOnce 83 = .ok (.iconst 1, 1) := by decide +kernel
theorem dX11_isOnce_84 : decode cX11_isOnce 84 = .ok (.goto 29, 3) := by decide +kernel
theorem dX11_isOnce_87 : decode cX11_isOnce 87 = .ok (.iconst 0, 1) := by decide +kernel
theorem dX11_isOnce_88 : decode cX11_isOnce 88 = .ok (.goto 25, 3) := by decide +kernel
theorem dX11_isOnce_91 : decode cX11_isOnce 91 = .ok (.aload_n 0, 1) := by decide +kernel
theorem dX11_isOnce_92 : decode cX11_isOnce 92 = .ok (.getfield 59, 3) := by decide +kernel
theorem dX11_isOnce_95 : decode cX11_isOnce 95 = .ok (.bipush 12, 2) := by decide +kernel
theorem dX11_isOnce_97 : decode cX11_isOnce 97 = .ok (.iaload, 1) := by decide +kernel
theorem dX11_isOnce_98 : decode cX11_isOnce 98 = .ok (.aload_n 0, 1) := by decide +kernel
theorem dX11_isOnce_99 : decode cX11_isOnce 99 = .ok (.getfield 88, 3) := by decide +kernel
theorem dX11_isOnce_102 : decode cX11_isOnce 102 = .ok (.bipush 12, 2) := by decide +kernel
theorem dX11_isOnce_104 : decode cX11_isOnce 104 = .ok (.iaload, 1) := by decide +kernel
theorem dX11_isOnce_105 : decode cX11_isOnce 105 = .ok (.if_icmp .le 7, 3) := by decide +kernel
theorem dX11_isOnce_108 : decode cX11_isOnce 108 = .ok (.iconst 1, 1) := by decide +kernel
theorem dX11_isOnce_109 : decode cX11_isOnce 109 = .ok (.goto 4, 3) := by decide +kernel
theorem dX11_isOnce_112 : decode cX11_isOnce 112 = .ok (.iconst 0, 1) := by decide +kernel
theorem dX11_isOnce_113 : decode cX11_isOnce 113 = .ok (.ireturn, 1) := by decide +kernel
theorem dX11_when_0 : decode cX11_when 0 = .ok (.aload_n 0, 1) := by decide +kernel
theorem dX11_when_1 : decode cX11_when 1 = .ok (.invokevirtual 247, 3) := by decide +kernel
theorem dX11_when_4 : decode cX11_when 4 = .ok (.iload_n 1, 1) := by decide +kernel
theorem dX11_when_5 : decode cX11_when 5 = .ok (.i2l, 1) := by decide +kernel
theorem dX11_when_6 : decode cX11_when 6 = .ok (.lconst 0, 1) := by decide +kernel
theorem dX11_when_7 : decode cX11_when 7 = .ok (.ldc2_w 408, 3) := by decide +kernel
theorem dX11_when_10 : decode cX11_when 10 = .ok (.invokestatic 358, 3) := by decide +kernel
theorem dX11_when_13 : decode cX11_when 13 = .ok (.ifCond .ne 9, 3) := by decide +kernel
theorem dX11_when_16 : decode cX11_when 16 = .ok (.aload_n 0, 1) := by decide +kernel
theorem dX11_when_17 : decode cX11_when 17 = .ok (.iconst 1, 1) := by decide +kernel
theorem dX11_when_18 : decode cX11_when 18 = .ok (.invokevirtual 250, 3) := by decide +kernel
theorem dX11_when_21 : decode cX11_when 21 = .ok (.ireturn, 1) := by decide +kernel
theorem dX11_when_22 : decode cX11_when 22 = .ok (.aload_n 0, 1) := by decide +kernel
theorem dX11_when_23 : decode cX11_when 23 = .ok (.invokevirtual 402, 3) := by decide +kernel
theorem dX11_when_26 : decode cX11_when 26 = .ok (.iconst 0, 1) := by decide +kernel
theorem dX11_when_27 : decode cX11_when 27 = .ok (.istore_n 2, 1) := by decide +kernel
theorem dX11_when_28 : decode cX11_when 28 = .ok (.iload_n 2, 1) := by decide +kernel
theorem dX11_when_29 : decode cX11_when 29 = .ok (.sipush 400, 3) := by decide +kernel
theorem dX11_when_32 : decode cX11_when 32 = .ok (.if_icmp .gt 27, 3) := by decide +kernel
theorem dX11_when_35 : decode cX11_when 35 = .ok (.aload_n 0, 1) := by decide +kernel
theorem dX11_when_36 : decode cX11_when 36 = .ok (.iload_n 1, 1) := by decide +kernel
theorem dX11_when_37 : decode cX11_when 37 = .ok (.invokevirtual 410, 3) := by decide +kernel
theorem dX11_when_40 : decode cX11_when 40 = .ok (.ifCond .eq 9, 3) := by decide +kernel
theorem dX11_when_43 : decode cX11_when 43 = .ok (.aload_n 0, 1) := by decide +kernel
theorem dX11_when_44 : decode cX11_when 44 = .ok (.iload_n 2, 1) := by decide +kernel
theorem dX11_when_45 : decode cX11_when 45 = .ok (.invokevirtual 405, 3) := by decide +kernel
theorem dX11_when_48 : decode cX11_when 48 = .ok (.ireturn, 1) := by decide +kernel
theorem dX11_when_49 : decode cX11_when 49 = .ok (.aload_n 0, 1) := by decide +kernel
theorem dX11_when_50 : decode cX11_when 50 = .ok (.invokevirtual 349, 3) := by decide +kernel
theorem dX11_when_53 : decode cX11_when 53 = .ok (.iinc 2 1, 3) := by decide +kernel
theorem dX11_when_56 : decode cX11_when 56 = .ok (.goto (-28), 3) := by decide +kernel
theorem dX11_when_59 : decode cX11_when 59 = .ok (.aload_n 0, 1) := by decide +kernel
theorem dX11_when_60 : decode cX11_when 60 = .ok (.iconst (-1), 1) := by decide +kernel
theorem dX11_when_61 : decode cX11_when 61 = .ok (.invokevirtual 405, 3) := by decide +kernel
theorem dX11_when_64 : decode cX11_when 64 = .ok (.ireturn, 1) := by decide +kernel
theorem dX11_isNear_0 : decode cX11_isNear 0 = .ok (.aload_n 0, 1) := by decide +kernel
theorem dX11_isNear_1 : decode cX11_isNear 1 = .ok (.invokevirtual 325, 3) := by decide +kernel
theorem dX11_isNear_4 : decode cX11_isNear 4 = .ok (.aload_n 0, 1) := by decide +kernel
theorem dX11_isNear_5 : decode cX11_isNear 5 = .ok (.getfield 59, 3) := by decide +kernel
theorem dX11_isNear_8 : decode cX11_isNear 8 = .ok (.bipush 29, 2) := by decide +kernel
theorem dX11_isNear_10 : decode cX11_isNear 10 = .ok (.iaload, 1) := by decide +kernel
theorem dX11_isNear_11 : decode cX11_isNear 11 = .ok (.isub, 1) := by decide +kernel
theorem dX11_isNear_12 : decode cX11_isNear 12 = .ok (.invokestatic 413, 3) := by decide +kernel
theorem dX11_isNear_15 : decode cX11_isNear 15 = .ok (.iconst 2, 1) := by decide +kernel
theorem dX11_isNear_16 : decode cX11_isNear 16 = .ok (.if_icmp .gt 7, 3) := by decide +kernel
theorem dX11_isNear_19 : decode cX11_isNear 19 = .ok (.iconst 1, 1) := by decide +kernel
theorem dX11_isNear_20 : decode cX11_isNear 20 = .ok (.goto 4, 3) := by decide +kernel
theorem dX11_isNear_23 : decode cX11_isNear 23 = .ok (.iconst 0, 1) := by decide +kernel
theorem dX11_isNear_24 : decode cX11_isNear 24 = .ok (.ireturn, 1) := by decide +kernel
theorem dX11_settles_0 : decode cX11_settles 0 = .ok (.aload_n 0, 1) := by decide +kernel
theorem dX11_settles_1 : decode cX11_settles 1 = .ok (.invokevirtual 247, 3) := by decide +kernel
theorem dX11_settles_4 : decode cX11_settles 4 = .ok (.aload_n 0, 1) := by decide +kernel
theorem dX11_settles_5 : decode cX11_settles 5 = .ok (.invokevirtual 402, 3) := by decide +kernel
theorem dX11_settles_8 : decode cX11_settles 8 = .ok (.aload_n 0, 1) := by decide +kernel
theorem dX11_settles_9 : decode cX11_settles 9 = .ok (.getfield 91, 3) := by decide +kernel
theorem dX11_settles_12 : decode cX11_settles 12 = .ok (.iconst 0, 1) := by decide +kernel
theorem dX11_settles_13 : decode cX11_settles 13 = .ok (.aload_n 0, 1) := by decide +kernel
theorem dX11_settles_14 : decode cX11_settles 14 = .ok (.getfield 59, 3) := by decide +kernel
theorem dX11_settles_17 : decode cX11_settles 17 = .ok (.bipush 8, 2) := by decide +kernel
theorem dX11_settles_19 : decode cX11_settles 19 = .ok (.iaload, 1) := by decide +kernel
theorem dX11_settles_20 : decode cX11_settles 20 = .ok (.iconst 2, 1) := by decide +kernel
theorem dX11_settles_21 : decode cX11_settles 21 = .ok (.if_icmp .ne 7, 3) := by decide +kernel
theorem dX11_settles_24 : decode cX11_settles 24 = .ok (.iconst 1, 1) := by decide +kernel
theorem dX11_settles_25 : decode cX11_settles 25 = .ok (.goto 4, 3) := by decide +kernel
theorem dX11_settles_28 : decode cX11_settles 28 = .ok (.iconst 0, 1) := by decide +kernel
theorem dX11_settles_29 : decode cX11_settles 29 = .ok (.iastore, 1) := by decide +kernel
theorem dX11_settles_30 : decode cX11_settles 30 = .ok (.iconst 0, 1) := by decide +kernel
theorem dX11_settles_31 : decode cX11_settles 31 = .ok (.istore_n 1, 1) := by decide +kernel
theorem dX11_settles_32 : decode cX11_settles 32 = .ok (.iconst 1, 1) := by decide +kernel
theorem dX11_settles_33 : decode cX11_settles 33 = .ok (.istore_n 2, 1) := by decide +kernel
theorem dX11_settles_34 : decode cX11_settles 34 = .ok (.iload_n 2, 1) := by decide +kernel
theorem dX11_settles_35 : decode cX11_settles 35 = .ok (.sipush 440, 3) := by decide +kernel
theorem dX11_settles_38 : decode cX11_settles 38 = .ok (.if_icmp .gt 78, 3) := by decide +kernel
theorem dX11_settles_41 : decode cX11_settles 41 = .ok (.aload_n 0, 1) := by decide +kernel
theorem dX11_settles_42 : decode cX11_settles 42 = .ok (.invokevirtual 349, 3) := by decide +kernel
theorem dX11_settles_45 : decode cX11_settles 45 = .ok (.aload_n 0, 1) := by decide +kernel
theorem dX11_settles_46 : decode cX11_settles 46 = .ok (.getfield 91, 3) := by decide +kernel
theorem dX11_settles_49 : decode cX11_settles 49 = .ok (.iload_n 2, 1) := by decide +kernel
theorem dX11_settles_50 : decode cX11_settles 50 = .ok (.aload_n 0, 1) := by decide +kernel
theorem dX11_settles_51 : decode cX11_settles 51 = .ok (.getfield 59, 3) := by decide +kernel
theorem dX11_settles_54 : decode cX11_settles 54 = .ok (.bipush 8, 2) := by decide +kernel
theorem dX11_settles_56 : decode cX11_settles 56 = .ok (.iaload, 1) := by decide +kernel
theorem dX11_settles_57 : decode cX11_settles 57 = .ok (.iconst 2, 1) := by decide +kernel
theorem dX11_settles_58 : decode cX11_settles 58 = .ok (.if_icmp .ne 7, 3) := by decide +kernel
theorem dX11_settles_61 : decode cX11_settles 61 = .ok (.iconst 1, 1) := by decide +kernel
theorem dX11_settles_62 : decode cX11_settles 62 = .ok (.goto 4, 3) := by decide +kernel
theorem dX11_settles_65 : decode cX11_settles 65 = .ok (.iconst 0, 1) := by decide +kernel
theorem dX11_settles_66 : decode cX11_settles 66 = .ok (.iastore, 1) := by decide +kernel
theorem dX11_settles_67 : decode cX11_settles 67 = .ok (.aload_n 0, 1) := by decide +kernel
theorem dX11_settles_68 : decode cX11_settles 68 = .ok (.invokevirtual 416, 3) := by decide +kernel
theorem dX11_settles_71 : decode cX11_settles 71 = .ok (.ifCond .eq 9, 3) := by decide +kernel
theorem dX11_settles_74 : decode cX11_settles 74 = .ok (.iload_n 1, 1) := by decide +kernel
theorem dX11_settles_75 : decode cX11_settles 75 = .ok (.iconst 1, 1) := by decide +kernel
theorem dX11_settles_76 : decode cX11_settles 76 = .ok (.iadd, 1) := by decide +kernel
theorem dX11_settles_77 : decode cX11_settles 77 = .ok (.goto 4, 3) := by decide +kernel
theorem dX11_settles_80 : decode cX11_settles 80 = .ok (.iconst 0, 1) := by decide +kernel
theorem dX11_settles_81 : decode cX11_settles 81 = .ok (.istore_n 1, 1) := by decide +kernel
theorem dX11_settles_82 : decode cX11_settles 82 = .ok (.iload_n 1, 1) := by decide +kernel
theorem dX11_settles_83 : decode cX11_settles 83 = .ok (.bipush 40, 2) := by decide +kernel
theorem dX11_settles_85 : decode cX11_settles 85 = .ok (.if_icmp .lt 25, 3) := by decide +kernel
theorem dX11_settles_88 : decode cX11_settles 88 = .ok (.aload_n 0, 1) := by decide +kernel
theorem dX11_settles_89 : decode cX11_settles 89 = .ok (.getfield 91, 3) := by decide +kernel
theorem dX11_settles_92 : decode cX11_settles 92 = .ok (.iload_n 2, 1) := by decide +kernel
theorem dX11_settles_93 : decode cX11_settles 93 = .ok (.bipush 40, 2) := by decide +kernel
theorem dX11_settles_95 : decode cX11_settles 95 = .ok (.isub, 1) := by decide +kernel
theorem dX11_settles_96 : decode cX11_settles 96 = .ok (.iaload, 1) := by decide +kernel
theorem dX11_settles_97 : decode cX11_settles 97 = .ok (.iconst 1, 1) := by decide +kernel
theorem dX11_settles_98 : decode cX11_settles 98 = .ok (.if_icmp .ne 12, 3) := by decide +kernel
theorem dX11_settles_101 : decode cX11_settles 101 = .ok (.aload_n 0, 1) := by decide +kernel
theorem dX11_settles_102 : decode cX11_settles 102 = .ok (.iload_n 2, 1) := by decide +kernel
theorem dX11_settles_103 : decode cX11_settles 103 = .ok (.bipush 40, 2) := by decide +kernel
theorem dX11_settles_105 : decode cX11_settles 105 = .ok (.isub, 1) := by decide +kernel
theorem dX11_settles_106 : decode cX11_settles 106 = .ok (.invokevirtual 405, 3) := by decide +kernel
theorem dX11_settles_109 : decode cX11_settles 109 = .ok (.ireturn, 1) := by decide +kernel
theorem dX11_settles_110 : decode cX11_settles 110 = .ok (.iinc 2 1, 3) := by decide +kernel
theorem dX11_settles_113 : decode cX11_settles 113 = .ok (.goto (-79), 3) := by decide +kernel
theorem dX11_settles_116 : decode cX11_settles 116 = .ok (.aload_n 0, 1) := by decide +kernel
theorem dX11_settles_117 : decode cX11_settles 117 = .ok (.iconst (-1), 1) := by decide +kernel
theorem dX11_settles_118 : decode cX11_settles 118 = .ok (.invokevirtual 405, 3) := by decide +kernel
theorem dX11_settles_121 : decode cX11_settles 121 = .ok (.ireturn, 1) := by decide +kernel
theorem dX11_tryBest_0 : decode cX11_tryBest 0 = .ok (.iload_n 2, 1) := by decide +kernel
theorem dX11_tryBest_1 : decode cX11_tryBest 1 = .ok (.iconst (-1), 1) := by decide +kernel
theorem dX11_tryBest_2 : decode cX11_tryBest 2 = .ok (.if_icmp .eq 19, 3) := by decide +kernel
theorem dX11_tryBest_5 : decode cX11_tryBest 5 = .ok (.aload_n 0, 1) := by decide +kernel
theorem dX11_tryBest_6 : decode cX11_tryBest 6 = .ok (.getfield 419, 3) := by decide +kernel
theorem dX11_tryBest_9 : decode cX11_tryBest 9 = .ok (.iconst (-1), 1) := by decide +kernel
theorem dX11_tryBest_10 : decode cX11_tryBest 10 = .ok (.if_icmp .eq 12, 3) := by decide +kernel
theorem dX11_tryBest_13 : decode cX11_tryBest 13 = .ok (.iload_n 2, 1) := by decide +kernel
theorem dX11_tryBest_14 : decode cX11_tryBest 14 = .ok (.aload_n 0, 1) := by decide +kernel
theorem dX11_tryBest_15 : decode cX11_tryBest 15 = .ok (.getfield 422, 3) := by decide +kernel
theorem dX11_tryBest_18 : decode cX11_tryBest 18 = .ok (.if_icmp .lt 4, 3) := by decide +kernel
theorem dX11_tryBest_21 : decode cX11_tryBest 21 = .ok (.return_, 1) := by decide +kernel
theorem dX11_tryBest_22 : decode cX11_tryBest 22 = .ok (.aload_n 0, 1) := by decide +kernel
theorem dX11_tryBest_23 : decode cX11_tryBest 23 = .ok (.iload_n 1, 1) := by decide +kernel
theorem dX11_tryBest_24 : decode cX11_tryBest 24 = .ok (.putfield 419, 3) := by decide +kernel
theorem dX11_tryBest_27 : decode cX11_tryBest 27 = .ok (.aload_n 0, 1) := by decide +kernel
theorem dX11_tryBest_28 : decode cX11_tryBest 28 = .ok (.iload_n 2, 1) := by decide +kernel
theorem dX11_tryBest_29 : decode cX11_tryBest 29 = .ok (.putfield 422, 3) := by decide +kernel
theorem dX11_tryBest_32 : decode cX11_tryBest 32 = .ok (.return_, 1) := by decide +kernel
theorem dX11_toAim_0 : decode cX11_toAim 0 = .ok (.aload_n 0, 1) := by decide +kernel
theorem dX11_toAim_1 : decode cX11_toAim 1 = .ok (.invokevirtual 247, 3) := by decide +kernel
theorem dX11_toAim_4 : decode cX11_toAim 4 = .ok (.iload_n 2, 1) := by decide +kernel
theorem dX11_toAim_5 : decode cX11_toAim 5 = .ok (.i2l, 1) := by decide +kernel
theorem dX11_toAim_6 : decode cX11_toAim 6 = .ok (.lconst 0, 1) := by decide +kernel
theorem dX11_toAim_7 : decode cX11_toAim 7 = .ok (.lconst 1, 1) := by decide +kernel
theorem dX11_toAim_8 : decode cX11_toAim 8 = .ok (.invokestatic 358, 3) := by decide +kernel
theorem dX11_toAim_11 : decode cX11_toAim 11 = .ok (.ifCond .ne 9, 3) := by decide +kernel
theorem dX11_toAim_14 : decode cX11_toAim 14 = .ok (.aload_n 0, 1) := by decide +kernel
theorem dX11_toAim_15 : decode cX11_toAim 15 = .ok (.iconst 1, 1) := by decide +kernel
theorem dX11_toAim_16 : decode cX11_toAim 16 = .ok (.invokevirtual 250, 3) := by decide +kernel
theorem dX11_toAim_19 : decode cX11_toAim 19 = .ok (.ireturn, 1) := by decide +kernel
theorem dX11_toAim_20 : decode cX11_toAim 20 = .ok (.iload_n 1, 1) := by decide +kernel
theorem dX11_toAim_21 : decode cX11_toAim 21 = .ok (.i2l, 1) := by decide +kernel
theorem dX11_toAim_22 : decode cX11_toAim 22 = .ok (.lconst 1, 1) := by decide +kernel
theorem dX11_toAim_23 : decode cX11_toAim 23 = .ok (.ldc2_w 400, 3) := by decide +kernel
theorem dX11_toAim_26 : decode cX11_toAim 26 = .ok (.invokestatic 358, 3) := by decide +kernel
theorem dX11_toAim_29 : decode cX11_toAim 29 = .ok (.ifCond .ne 9, 3) := by decide +kernel
theorem dX11_toAim_32 : decode cX11_toAim 32 = .ok (.aload_n 0, 1) := by decide +kernel
theorem dX11_toAim_33 : decode cX11_toAim 33 = .ok (.iconst 2, 1) := by decide +kernel
theorem dX11_toAim_34 : decode cX11_toAim 34 = .ok (.invokevirtual 250, 3) := by decide +kernel
theorem dX11_toAim_37 : decode cX11_toAim 37 = .ok (.ireturn, 1) := by decide +kernel
theorem dX11_toAim_38 : decode cX11_toAim 38 = .ok (.aload_n 0, 1) := by decide +kernel
theorem dX11_toAim_39 : decode cX11_toAim 39 = .ok (.iconst (-1), 1) := by decide +kernel
theorem dX11_toAim_40 : decode cX11_toAim 40 = .ok (.putfield 419, 3) := by decide +kernel
theorem dX11_toAim_43 : decode cX11_toAim 43 = .ok (.aload_n 0, 1) := by decide +kernel
theorem dX11_toAim_44 : decode cX11_toAim 44 = .ok (.invokevirtual 402, 3) := by decide +kernel
theorem dX11_toAim_47 : decode cX11_toAim 47 = .ok (.iconst 1, 1) := by decide +kernel
theorem dX11_toAim_48 : decode cX11_toAim 48 = .ok (.istore_n 3, 1) := by decide +kernel
theorem dX11_toAim_49 : decode cX11_toAim 49 = .ok (.iload_n 3, 1) := by decide +kernel
theorem dX11_toAim_50 : decode cX11_toAim 50 = .ok (.bipush 64, 2) := by decide +kernel
theorem dX11_toAim_52 : decode cX11_toAim 52 = .ok (.if_icmp .gt 52, 3) := by decide +kernel
theorem dX11_toAim_55 : decode cX11_toAim 55 = .ok (.aload_n 0, 1) := by decide +kernel
theorem dX11_toAim_56 : decode cX11_toAim 56 = .ok (.getfield 59, 3) := by decide +kernel
theorem dX11_toAim_59 : decode cX11_toAim 59 = .ok (.bipush 29, 2) := by decide +kernel
theorem dX11_toAim_61 : decode cX11_toAim 61 = .ok (.iload_n 3, 1) := by decide +kernel
theorem dX11_toAim_62 : decode cX11_toAim 62 = .ok (.iastore, 1) := by decide +kernel
theorem dX11_toAim_63 : decode cX11_toAim 63 = .ok (.aload_n 0, 1) := by decide +kernel
theorem dX11_toAim_64 : decode cX11_toAim 64 = .ok (.iload_n 1, 1) := by decide +kernel
theorem dX11_toAim_65 : decode cX11_toAim 65 = .ok (.invokevirtual 387, 3) := by decide +kernel
theorem dX11_toAim_68 : decode cX11_toAim 68 = .ok (.aload_n 0, 1) := by decide +kernel
theorem dX11_toAim_69 : decode cX11_toAim 69 = .ok (.getfield 59, 3) := by decide +kernel
theorem dX11_toAim_72 : decode cX11_toAim 72 = .ok (.bipush 7, 2) := by decide +kernel
theorem dX11_toAim_74 : decode cX11_toAim 74 = .ok (.iaload, 1) := by decide +kernel
theorem dX11_toAim_75 : decode cX11_toAim 75 = .ok (.aload_n 0, 1) := by decide +kernel
theorem dX11_toAim_76 : decode cX11_toAim 76 = .ok (.getfield 88, 3) := by decide +kernel
theorem dX11_toAim_79 : decode cX11_toAim 79 = .ok (.bipush 7, 2) := by decide +kernel
theorem dX11_toAim_81 : decode cX11_toAim 81 = .ok (.iaload, 1) := by decide +kernel
theorem dX11_toAim_82 : decode cX11_toAim 82 = .ok (.isub, 1) := by decide +kernel
theorem dX11_toAim_83 : decode cX11_toAim 83 = .ok (.istore 4, 2) := by decide +kernel
theorem dX11_toAim_85 : decode cX11_toAim 85 = .ok (.aload_n 0, 1) := by decide +kernel
theorem dX11_toAim_86 : decode cX11_toAim 86 = .ok (.iconst 0, 1) := by decide +kernel
theorem dX11_toAim_87 : decode cX11_toAim 87 = .ok (.invokevirtual 405, 3) := by decide +kernel
theorem dX11_toAim_90 : decode cX11_toAim 90 = .ok (.pop, 1) := by decide +kernel
theorem dX11_toAim_91 : decode cX11_toAim 91 = .ok (.aload_n 0, 1) := by decide +kernel
theorem dX11_toAim_92 : decode cX11_toAim 92 = .ok (.iload_n 3, 1) := by decide +kernel
theorem dX11_toAim_93 : decode cX11_toAim 93 = .ok (.iload 4, 2) := by decide +kernel
theorem dX11_toAim_95 : decode cX11_toAim 95 = .ok (.invokevirtual 425, 3) := by decide +kernel
theorem dX11_toAim_98 : decode cX11_toAim 98 = .ok (.iinc 3 1, 3) := by decide +kernel
theorem dX11_toAim_101 : decode cX11_toAim 101 = .ok (.goto (-52), 3) := by decide +kernel
theorem dX11_toAim_104 : decode cX11_toAim 104 = .ok (.iload_n 2, 1) := by decide +kernel
theorem dX11_toAim_105 : decode cX11_toAim 105 = .ok (.ifCond .ne 10, 3) := by decide +kernel
theorem dX11_toAim_108 : decode cX11_toAim 108 = .ok (.aload_n 0, 1) := by decide +kernel
theorem dX11_toAim_109 : decode cX11_toAim 109 = .ok (.getfield 419, 3) := by decide +kernel
theorem dX11_toAim_112 : decode cX11_toAim 112 = .ok (.goto 7, 3) := by decide +kernel
theorem dX11_toAim_115 : decode cX11_toAim 115 = .ok (.aload_n 0, 1) := by decide +kernel
theorem dX11_toAim_116 : decode cX11_toAim 116 = .ok (.getfield 422, 3) := by decide +kernel
theorem dX11_toAim_119 : decode cX11_toAim 119 = .ok (.ireturn, 1) := by decide +kernel
theorem dX11_farOff_0 : decode cX11_farOff 0 = .ok (.iconst (-1), 1) := by decide +kernel
theorem dX11_farOff_1 : decode cX11_farOff 1 = .ok (.istore_n 2, 1) := by decide +kernel
theorem dX11_farOff_2 : decode cX11_farOff 2 = .ok (.iconst 0, 1) := by decide +kernel
theorem dX11_farOff_3 : decode cX11_farOff 3 = .ok (.istore_n 3, 1) := by decide +kernel
theorem dX11_farOff_4 : decode cX11_farOff 4 = .ok (.iload_n 3, 1) := by decide +kernel
theorem dX11_farOff_5 : decode cX11_farOff 5 = .ok (.iload_n 1, 1) := by decide +kernel
theorem dX11_farOff_6 : decode cX11_farOff 6 = .ok (.if_icmp .ge 44, 3) := by decide +kernel
theorem dX11_farOff_9 : decode cX11_farOff 9 = .ok (.aload_n 0, 1) := by decide +kernel
theorem dX11_farOff_10 : decode cX11_farOff 10 = .ok (.invokevirtual 349, 3) := by decide +kernel
theorem dX11_farOff_13 : decode cX11_farOff 13 = .ok (.aload_n 0, 1) := by decide +kernel
theorem dX11_farOff_14 : decode cX11_farOff 14 = .ok (.getfield 59, 3) := by decide +kernel
theorem dX11_farOff_17 : decode cX11_farOff 17 = .ok (.bipush 8, 2) := by decide +kernel
theorem dX11_farOff_19 : decode cX11_farOff 19 = .ok (.iaload, 1) := by decide +kernel
theorem dX11_farOff_20 : decode cX11_farOff 20 = .ok (.iconst 2, 1) := by decide +kernel
theorem dX11_farOff_21 : decode cX11_farOff 21 = .ok (.if_icmp .ne 23, 3) := by decide +kernel
theorem dX11_farOff_24 : decode cX11_farOff 24 = .ok (.iload_n 2, 1) := by decide +kernel
theorem dX11_farOff_25 : decode cX11_farOff 25 = .ok (.aload_n 0, 1) := by decide +kernel
theorem dX11_farOff_26 : decode cX11_farOff 26 = .ok (.invokevirtual 325, 3) := by decide +kernel
theorem dX11_farOff_29 : decode cX11_farOff 29 = .ok (.aload_n 0, 1) := by decide +kernel
theorem dX11_farOff_30 : decode cX11_farOff 30 = .ok (.getfield 59, 3) := by decide +kernel
theorem dX11_farOff_33 : decode cX11_farOff 33 = .ok (.bipush 29, 2) := by decide +kernel
theorem dX11_farOff_35 : decode cX11_farOff 35 = .ok (.iaload, 1) := by decide +kernel
theorem dX11_farOff_36 : decode cX11_farOff 36 = .ok (.isub, 1) := by decide +kernel
theorem dX11_farOff_37 : decode cX11_farOff 37 = .ok (.invokestatic 413, 3) := by decide +kernel
theorem dX11_farOff_40 : decode cX11_farOff 40 = .ok (.invokestatic 130, 3) := by decide +kernel
theorem dX11_farOff_43 : decode cX11_farOff 43 = .ok (.istore_n 2, 1) := by decide +kernel
theorem dX11_farOff_44 : decode cX11_farOff 44 = .ok (.iinc 3 1, 3) := by decide +kernel
theorem dX11_farOff_47 : decode cX11_farOff 47 = .ok (.goto (-43), 3) := by decide +kernel
theorem dX11_farOff_50 : decode cX11_farOff 50 = .ok (.aload_n 0, 1) := by decide +kernel
theorem dX11_farOff_51 : decode cX11_farOff 51 = .ok (.iload_n 2, 1) := by decide +kernel
theorem dX11_farOff_52 : decode cX11_farOff 52 = .ok (.invokevirtual 405, 3) := by decide +kernel
theorem dX11_farOff_55 : decode cX11_farOff 55 = .ok (.ireturn, 1) := by decide +kernel
theorem dX11_toGain_0 : decode cX11_toGain 0 = .ok (.aload_n 0, 1) := by decide +kernel
theorem dX11_toGain_1 : decode cX11_toGain 1 = .ok (.invokevirtual 247, 3) := by decide +kernel
theorem dX11_toGain_4 : decode cX11_toGain 4 = .ok (.iload_n 2, 1) := by decide +kernel
theorem dX11_toGain_5 : decode cX11_toGain 5 = .ok (.i2l, 1) := by decide +kernel
theorem dX11_toGain_6 : decode cX11_toGain 6 = .ok (.lconst 0, 1) := by decide +kernel
theorem dX11_toGain_7 : decode cX11_toGain 7 = .ok (.lconst 1, 1) := by decide +kernel
theorem dX11_toGain_8 : decode cX11_toGain 8 = .ok (.invokestatic 358, 3) := by decide +kernel
theorem dX11_toGain_11 : decode cX11_toGain 11 = .ok (.ifCond .ne 9, 3) := by decide +kernel
theorem dX11_toGain_14 : decode cX11_toGain 14 = .ok (.aload_n 0, 1) := by decide +kernel
theorem dX11_toGain_15 : decode cX11_toGain 15 = .ok (.iconst 1, 1) := by decide +kernel
theorem dX11_toGain_16 : decode cX11_toGain 16 = .ok (.invokevirtual 250, 3) := by decide +kernel
theorem dX11_toGain_19 : decode cX11_toGain 19 = .ok (.ireturn, 1) := by decide +kernel
theorem dX11_toGain_20 : decode cX11_toGain 20 = .ok (.iload_n 1, 1) := by decide +kernel
theorem dX11_toGain_21 : decode cX11_toGain 21 = .ok (.i2l, 1) := by decide +kernel
theorem dX11_toGain_22 : decode cX11_toGain 22 = .ok (.lconst 1, 1) := by decide +kernel
theorem dX11_toGain_23 : decode cX11_toGain 23 = .ok (.ldc2_w 400, 3) := by decide +kernel
theorem dX11_toGain_26 : decode cX11_toGain 26 = .ok (.invokestatic 358, 3) := by decide +kernel
theorem dX11_toGain_29 : decode cX11_toGain 29 = .ok (.ifCond .ne 9, 3) := by decide +kernel
theorem dX11_toGain_32 : decode cX11_toGain 32 = .ok (.aload_n 0, 1) := by decide +kernel
theorem dX11_toGain_33 : decode cX11_toGain 33 = .ok (.iconst 2, 1) := by decide +kernel
theorem dX11_toGain_34 : decode cX11_toGain 34 = .ok (.invokevirtual 250, 3) := by decide +kernel
theorem dX11_toGain_37 : decode cX11_toGain 37 = .ok (.ireturn, 1) := by decide +kernel
theorem dX11_toGain_38 : decode cX11_toGain 38 = .ok (.aload_n 0, 1) := by decide +kernel
theorem dX11_toGain_39 : decode cX11_toGain 39 = .ok (.getfield 266, 3) := by decide +kernel
theorem dX11_toGain_42 : decode cX11_toGain 42 = .ok (.istore_n 3, 1) := by decide +kernel
theorem dX11_toGain_43 : decode cX11_toGain 43 = .ok (.aload_n 0, 1) := by decide +kernel
theorem dX11_toGain_44 : decode cX11_toGain 44 = .ok (.getfield 269, 3) := by decide +kernel
theorem dX11_toGain_47 : decode cX11_toGain 47 = .ok (.istore 4, 2) := by decide +kernel
theorem dX11_toGain_49 : decode cX11_toGain 49 = .ok (.aload_n 0, 1) := by decide +kernel
theorem dX11_toGain_50 : decode cX11_toGain 50 = .ok (.iconst (-1), 1) := by decide +kernel
theorem dX11_toGain_51 : decode cX11_toGain 51 = .ok (.putfield 419, 3) := by decide +kernel
theorem dX11_toGain_54 : decode cX11_toGain 54 = .ok (.aload_n 0, 1) := by decide +kernel
theorem dX11_toGain_55 : decode cX11_toGain 55 = .ok (.iconst (-1), 1) := by decide +kernel
theorem dX11_toGain_56 : decode cX11_toGain 56 = .ok (.putfield 422, 3) := by decide +kernel
theorem dX11_toGain_59 : decode cX11_toGain 59 = .ok (.aload_n 0, 1) := by decide +kernel
theorem dX11_toGain_60 : decode cX11_toGain 60 = .ok (.invokevirtual 402, 3) := by decide +kernel
theorem dX11_toGain_63 : decode cX11_toGain 63 = .ok (.aload_n 0, 1) := by decide +kernel
theorem dX11_toGain_64 : decode cX11_toGain 64 = .ok (.iconst 0, 1) := by decide +kernel
theorem dX11_toGain_65 : decode cX11_toGain 65 = .ok (.putfield 266, 3) := by decide +kernel
theorem dX11_toGain_68 : decode cX11_toGain 68 = .ok (.aload_n 0, 1) := by decide +kernel
theorem dX11_toGain_69 : decode cX11_toGain 69 = .ok (.getfield 266, 3) := by decide +kernel
theorem dX11_toGain_72 : decode cX11_toGain 72 = .ok (.bipush 9, 2) := by decide +kernel
theorem dX11_toGain_74 : decode cX11_toGain 74 = .ok (.if_icmp .gt 63, 3) := by decide +kernel
theorem dX11_toGain_77 : decode cX11_toGain 77 = .ok (.aload_n 0, 1) := by decide +kernel
theorem dX11_toGain_78 : decode cX11_toGain 78 = .ok (.iconst 0, 1) := by decide +kernel
theorem dX11_toGain_79 : decode cX11_toGain 79 = .ok (.putfield 269, 3) := by decide +kernel
theorem dX11_toGain_82 : decode cX11_toGain 82 = .ok (.aload_n 0, 1) := by decide +kernel
theorem dX11_toGain_83 : decode cX11_toGain 83 = .ok (.getfield 269, 3) := by decide +kernel
theorem dX11_toGain_86 : decode cX11_toGain 86 = .ok (.iconst 3, 1) := by decide +kernel
theorem dX11_toGain_87 : decode cX11_toGain 87 = .ok (.if_icmp .gt 37, 3) := by decide +kernel
theorem dX11_toGain_90 : decode cX11_toGain 90 = .ok (.aload_n 0, 1) := by decide +kernel
theorem dX11_toGain_91 : decode cX11_toGain 91 = .ok (.bipush 10, 2) := by decide +kernel
theorem dX11_toGain_93 : decode cX11_toGain 93 = .ok (.aload_n 0, 1) := by decide +kernel
theorem dX11_toGain_94 : decode cX11_toGain 94 = .ok (.getfield 266, 3) := by decide +kernel
theorem dX11_toGain_97 : decode cX11_toGain 97 = .ok (.imul, 1) := by decide +kernel
theorem dX11_toGain_98 : decode cX11_toGain 98 = .ok (.aload_n 0, 1) := by decide +kernel
theorem dX11_toGain_99 : decode cX11_toGain 99 = .ok (.getfield 269, 3) := by decide +kernel
theorem dX11_toGain_102 : decode cX11_toGain 102 = .ok (.iadd, 1) := by decide +kernel
theorem dX11_toGain_103 : decode cX11_toGain 103 = .ok (.aload_n 0, 1) := by decide +kernel
theorem dX11_toGain_104 : decode cX11_toGain 104 = .ok (.iload_n 1, 1) := by decide +kernel
theorem dX11_toGain_105 : decode cX11_toGain 105 = .ok (.invokevirtual 428, 3) := by decide +kernel
theorem dX11_toGain_108 : decode cX11_toGain 108 = .ok (.invokevirtual 425, 3) := by decide +kernel
theorem dX11_toGain_111 : decode cX11_toGain 111 = .ok (.aload_n 0, 1) := by decide +kernel
theorem dX11_toGain_112 : decode cX11_toGain 112 = .ok (.dup, 1) := by decide +kernel
theorem dX11_toGain_113 : decode cX11_toGain 113 = .ok (.getfield 269, 3) := by decide +kernel
theorem dX11_toGain_116 : decode cX11_toGain 116 = .ok (.iconst 1, 1) := by decide +kernel
theorem dX11_toGain_117 : decode cX11_toGain 117 = .ok (.iadd, 1) := by decide +kernel
theorem dX11_toGain_118 : decode cX11_toGain 118 = .ok (.putfield 269, 3) := by decide +kernel
theorem dX11_toGain_121 : decode cX11_toGain 121 = .ok (.goto (-39), 3) := by decide +kernel
theorem dX11_toGain_124 : decode cX11_toGain 124 = .ok (.aload_n 0, 1) := by decide +kernel
theorem dX11_toGain_125 : decode cX11_toGain 125 = .ok (.dup, 1) := by decide +kernel
theorem dX11_toGain_126 : decode cX11_toGain 126 = .ok (.getfield 266, 3) := by decide +kernel
theorem dX11_toGain_129 : decode cX11_toGain 129 = .ok (.iconst 1, 1) := by decide +kernel
theorem dX11_toGain_130 : decode cX11_toGain 130 = .ok (.iadd, 1) := by decide +kernel
theorem dX11_toGain_131 : decode cX11_toGain 131 = .ok (.putfield 266, 3) := by decide +kernel
theorem dX11_toGain_134 : decode cX11_toGain 134 = .ok (.goto (-66), 3) := by decide +kernel
theorem dX11_toGain_137 : decode cX11_toGain 137 = .ok (.aload_n 0, 1) := by decide +kernel
theorem dX11_toGain_138 : decode cX11_toGain 138 = .ok (.iload_n 3, 1) := by decide +kernel
theorem dX11_toGain_139 : decode cX11_toGain 139 = .ok (.putfield 266, 3) := by decide +kernel
theorem dX11_toGain_142 : decode cX11_toGain 142 = .ok (.aload_n 0, 1) := by decide +kernel
theorem dX11_toGain_143 : decode cX11_toGain 143 = .ok (.iload 4, 2) := by decide +kernel
theorem dX11_toGain_145 : decode cX11_toGain 145 = .ok (.putfield 269, 3) := by decide +kernel
theorem dX11_toGain_148 : decode cX11_toGain 148 = .ok (.iload_n 2, 1) := by decide +kernel
theorem dX11_toGain_149 : decode cX11_toGain 149 = .ok (.ifCond .ne 10, 3) := by decide +kernel
theorem dX11_toGain_152 : decode cX11_toGain 152 = .ok (.aload_n 0, 1) := by decide +kernel
theorem dX11_toGain_153 : decode cX11_toGain 153 = .ok (.getfield 419, 3) := by decide +kernel
theorem dX11_toGain_156 : decode cX11_toGain 156 = .ok (.goto 7, 3) := by decide +kernel
theorem dX11_toGain_159 : decode cX11_toGain 159 = .ok (.aload_n 0, 1) := by decide +kernel
theorem dX11_toGain_160 : decode cX11_toGain 160 = .ok (.getfield 422, 3) := by decide +kernel
theorem dX11_toGain_163 : decode cX11_toGain 163 = .ok (.ireturn, 1) := by decide +kernel
theorem dX11_note_0 : decode cX11_note 0 = .ok (.aload_n 0, 1) := by decide +kernel
theorem dX11_note_1 : decode cX11_note 1 = .ok (.invokevirtual 247, 3) := by decide +kernel
theorem dX11_note_4 : decode cX11_note 4 = .ok (.aload_n 0, 1) := by decide +kernel
theorem dX11_note_5 : decode cX11_note 5 = .ok (.getfield 281, 3) := by decide +kernel
theorem dX11_note_8 : decode cX11_note 8 = .ok (.bipush 8, 2) := by decide +kernel
theorem dX11_note_10 : decode cX11_note 10 = .ok (.if_icmp .eq 27, 3) := by decide +kernel
theorem dX11_note_13 : decode cX11_note 13 = .ok (.iload_n 1, 1) := by decide +kernel
theorem dX11_note_14 : decode cX11_note 14 = .ok (.i2l, 1) := by decide +kernel
theorem dX11_note_15 : decode cX11_note 15 = .ok (.lconst 0, 1) := by decide +kernel
theorem dX11_note_16 : decode cX11_note 16 = .ok (.ldc2_w 431, 3) := by decide +kernel
theorem dX11_note_19 : decode cX11_note 19 = .ok (.invokestatic 358, 3) := by decide +kernel
theorem dX11_note_22 : decode cX11_note 22 = .ok (.ifCond .eq 15, 3) := by decide +kernel
theorem dX11_note_25 : decode cX11_note 25 = .ok (.iload_n 2, 1) := by decide +kernel
theorem dX11_note_26 : decode cX11_note 26 = .ok (.i2l, 1) := by decide +kernel
theorem dX11_note_27 : decode cX11_note 27 = .ok (.lconst 0, 1) := by decide +kernel
theorem dX11_note_28 : decode cX11_note 28 = .ok (.ldc2_w 433, 3) := by decide +kernel
theorem dX11_note_31 : decode cX11_note 31 = .ok (.invokestatic 358, 3) := by decide +kernel
theorem dX11_note_34 : decode cX11_note 34 = .ok (.ifCond .ne 9, 3) := by decide +kernel
theorem dX11_note_37 : decode cX11_note 37 = .ok (.aload_n 0, 1) := by decide +kernel
theorem dX11_note_38 : decode cX11_note 38 = .ok (.iconst 2, 1) := by decide +kernel
theorem dX11_note_39 : decode cX11_note 39 = .ok (.invokevirtual 381, 3) := by decide +kernel
theorem dX11_note_42 : decode cX11_note 42 = .ok (.ireturn, 1) := by decide +kernel
theorem dX11_note_43 : decode cX11_note 43 = .ok (.aload_n 0, 1) := by decide +kernel
theorem dX11_note_44 : decode cX11_note 44 = .ok (.getfield 94, 3) := by decide +kernel
theorem dX11_note_47 : decode cX11_note 47 = .ok (.aload_n 0, 1) := by decide +kernel
theorem dX11_note_48 : decode cX11_note 48 = .ok (.getfield 281, 3) := by decide +kernel
theorem dX11_note_51 : decode cX11_note 51 = .ok (.iload_n 1, 1) := by decide +kernel
theorem dX11_note_52 : decode cX11_note 52 = .ok (.iastore, 1) := by decide +kernel
theorem dX11_note_53 : decode cX11_note 53 = .ok (.aload_n 0, 1) := by decide +kernel
theorem dX11_note_54 : decode cX11_note 54 = .ok (.getfield 97, 3) := by decide +kernel
theorem dX11_note_57 : decode cX11_note 57 = .ok (.aload_n 0, 1) := by decide +kernel
theorem dX11_note_58 : decode cX11_note 58 = .ok (.getfield 281, 3) := by decide +kernel
theorem dX11_note_61 : decode cX11_note 61 = .ok (.iload_n 2, 1) := by decide +kernel
theorem dX11_note_62 : decode cX11_note 62 = .ok (.iastore, 1) := by decide +kernel
theorem dX11_note_63 : decode cX11_note 63 = .ok (.aload_n 0, 1) := by decide +kernel
theorem dX11_note_64 : decode cX11_note 64 = .ok (.dup, 1) := by decide +kernel
theorem dX11_note_65 : decode cX11_note 65 = .ok (.getfield 281, 3) := by decide +kernel
theorem dX11_note_68 : decode cX11_note 68 = .ok (.iconst 1, 1) := by decide +kernel
theorem dX11_note_69 : decode cX11_note 69 = .ok (.iadd, 1) := by decide +kernel
theorem dX11_note_70 : decode cX11_note 70 = .ok (.putfield 281, 3) := by decide +kernel
theorem dX11_note_73 : decode cX11_note 73 = .ok (.aload_n 0, 1) := by decide +kernel
theorem dX11_note_74 : decode cX11_note 74 = .ok (.getfield 281, 3) := by decide +kernel
theorem dX11_note_77 : decode cX11_note 77 = .ok (.ireturn, 1) := by decide +kernel
theorem dX11_isAsNoted_0 : decode cX11_isAsNoted 0 = .ok (.iconst 1, 1) := by decide +kernel
theorem dX11_isAsNoted_1 : decode cX11_isAsNoted 1 = .ok (.istore_n 2, 1) := by decide +kernel
theorem dX11_isAsNoted_2 : decode cX11_isAsNoted 2 = .ok (.iconst 0, 1) := by decide +kernel
theorem dX11_isAsNoted_3 : decode cX11_isAsNoted 3 = .ok (.istore_n 3, 1) := by decide +kernel
theorem dX11_isAsNoted_4 : decode cX11_isAsNoted 4 = .ok (.iload_n 3, 1) := by decide +kernel
theorem dX11_isAsNoted_5 : decode cX11_isAsNoted 5 = .ok (.bipush 60, 2) := by decide +kernel
theorem dX11_isAsNoted_7 : decode cX11_isAsNoted 7 = .ok (.if_icmp .gt 106, 3) := by decide +kernel
theorem dX11_isAsNoted_10 : decode cX11_isAsNoted 10 = .ok (.aload_n 0, 1) := by decide +kernel
theorem dX11_isAsNoted_11 : decode cX11_isAsNoted 11 = .ok (.invokevirtual 325, 3) := by decide +kernel
theorem dX11_isAsNoted_14 : decode cX11_isAsNoted 14 = .ok (.istore 4, 2) := by decide +kernel
theorem dX11_isAsNoted_16 : decode cX11_isAsNoted 16 = .ok (.iconst 0, 1) := by decide +kernel
theorem dX11_isAsNoted_17 : decode cX11_isAsNoted 17 = .ok (.istore 5, 2) := by decide +kernel
theorem dX11_isAsNoted_19 : decode cX11_isAsNoted 19 = .ok (.iload 5, 2) := by decide +kernel
theorem dX11_isAsNoted_21 : decode cX11_isAsNoted 21 = .ok (.aload_n 0, 1) := by decide +kernel
theorem dX11_isAsNoted_22 : decode cX11_isAsNoted 22 = .ok (.getfield 281, 3) := by decide +kernel
theorem dX11_isAsNoted_25 : decode cX11_isAsNoted 25 = .ok (.if_icmp .ge 42, 3) := by decide +kernel
theorem dX11_isAsNoted_28 : decode cX11_isAsNoted 28 = .ok (.iload_n 2, 1) := by decide +kernel
theorem dX11_isAsNoted_29 : decode cX11_isAsNoted 29 = .ok (.ifCond .eq 30, 3) := by decide +kernel
theorem dX11_isAsNoted_32 : decode cX11_isAsNoted 32 = .ok (.aload_n 0, 1) := by decide +kernel
theorem dX11_isAsNoted_33 : decode cX11_isAsNoted 33 = .ok (.getfield 94, 3) := by decide +kernel
theorem dX11_isAsNoted_36 : decode cX11_isAsNoted 36 = .ok (.iload 5, 2) := by decide +kernel
theorem dX11_isAsNoted_38 : decode cX11_isAsNoted 38 = .ok (.iaload, 1) := by decide +kernel
theorem dX11_isAsNoted_39 : decode cX11_isAsNoted 39 = .ok (.iload_n 3, 1) := by decide +kernel
theorem dX11_isAsNoted_40 : decode cX11_isAsNoted 40 = .ok (.if_icmp .ne 15, 3) := by decide +kernel
theorem dX11_isAsNoted_43 : decode cX11_isAsNoted 43 = .ok (.aload_n 0, 1) := by decide +kernel
theorem dX11_isAsNoted_44 : decode cX11_isAsNoted 44 = .ok (.getfield 97, 3) := by decide +kernel
theorem dX11_isAsNoted_47 : decode cX11_isAsNoted 47 = .ok (.iload 5, 2) := by decide +kernel
theorem dX11_isAsNoted_49 : decode cX11_isAsNoted 49 = .ok (.iaload, 1) := by decide +kernel
theorem dX11_isAsNoted_50 : decode cX11_isAsNoted 50 = .ok (.iload 4, 2) := by decide +kernel
theorem dX11_isAsNoted_52 : decode cX11_isAsNoted 52 = .ok (.if_icmp .ne 7, 3) := by decide +kernel
theorem dX11_isAsNoted_55 : decode cX11_isAsNoted 55 = .ok (.iconst 1, 1) := by decide +kernel
theorem dX11_isAsNoted_56 : decode cX11_isAsNoted 56 = .ok (.goto 4, 3) := by decide +kernel
theorem dX11_isAsNoted_59 : decode cX11_isAsNoted 59 = .ok (.iconst 0, 1) := by decide +kernel
theorem dX11_isAsNoted_60 : decode cX11_isAsNoted 60 = .ok (.istore_n 2, 1) := by decide +kernel
theorem dX11_isAsNoted_61 : decode cX11_isAsNoted 61 = .ok (.iinc 5 1, 3) := by decide +kernel
theorem dX11_isAsNoted_64 : decode cX11_isAsNoted 64 = .ok (.goto (-45), 3) := by decide +kernel
theorem dX11_isAsNoted_67 : decode cX11_isAsNoted 67 = .ok (.iload_n 3, 1) := by decide +kernel
theorem dX11_isAsNoted_68 : decode cX11_isAsNoted 68 = .ok (.ifCond .le 35, 3) := by decide +kernel
theorem dX11_isAsNoted_71 : decode cX11_isAsNoted 71 = .ok (.iload_n 3, 1) := by decide +kernel
theorem dX11_isAsNoted_72 : decode cX11_isAsNoted 72 = .ok (.bipush 10, 2) := by decide +kernel
theorem dX11_isAsNoted_74 : decode cX11_isAsNoted 74 = .ok (.irem, 1) := by decide +kernel
theorem dX11_isAsNoted_75 : decode cX11_isAsNoted 75 = .ok (.ifCond .ne 28, 3) := by decide +kernel
theorem dX11_isAsNoted_78 : decode cX11_isAsNoted 78 = .ok (.iload_n 3, 1) := by decide +kernel
theorem dX11_isAsNoted_79 : decode cX11_isAsNoted 79 = .ok (.bipush 10, 2) := by decide +kernel
theorem dX11_isAsNoted_81 : decode cX11_isAsNoted 81 = .ok (.idiv, 1) := by decide +kernel
theorem dX11_isAsNoted_82 : decode cX11_isAsNoted 82 = .ok (.iconst 5, 1) := by decide +kernel
theorem dX11_isAsNoted_83 : decode cX11_isAsNoted 83 = .ok (.if_icmp .gt 20, 3) := by decide +kernel
theorem dX11_isAsNoted_86 : decode cX11_isAsNoted 86 = .ok (.aload_n 0, 1) := by decide +kernel
theorem dX11_isAsNoted_87 : decode cX11_isAsNoted 87 = .ok (.getfield 103, 3) := by decide +kernel
theorem dX11_isAsNoted_90 : decode cX11_isAsNoted 90 = .ok (.iconst 5, 1) := by decide +kernel
theorem dX11_isAsNoted_91 : decode cX11_isAsNoted 91 = .ok (.iload_n 1, 1) := by decide +kernel
theorem dX11_isAsNoted_92 : decode cX11_isAsNoted 92 = .ok (.imul, 1) := by decide +kernel
theorem dX11_isAsNoted_93 : decode cX11_isAsNoted 93 = .ok (.iload_n 3, 1) := by decide +kernel
theorem dX11_isAsNoted_94 : decode cX11_isAsNoted 94 = .ok (.bipush 10, 2) := by decide +kernel
theorem dX11_isAsNoted_96 : decode cX11_isAsNoted 96 = .ok (.idiv, 1) := by decide +kernel
theorem dX11_isAsNoted_97 : decode cX11_isAsNoted 97 = .ok (.iadd, 1) := by decide +kernel
theorem dX11_isAsNoted_98 : decode cX11_isAsNoted 98 = .ok (.iconst 1, 1) := by decide +kernel
theorem dX11_isAsNoted_99 : decode cX11_isAsNoted 99 = .ok (.isub, 1) := by decide +kernel
theorem dX11_isAsNoted_100 : decode cX11_isAsNoted 100 = .ok (.iload 4, 2) := by decide +kernel
theorem dX11_isAsNoted_102 : decode cX11_isAsNoted 102 = .ok (.iastore, 1) := by decide +kernel
theorem dX11_isAsNoted_103 : decode cX11_isAsNoted 103 = .ok (.aload_n 0, 1) := by decide +kernel
theorem dX11_isAsNoted_104 : decode cX11_isAsNoted 104 = .ok (.invokevirtual 349, 3) := by decide +kernel
theorem dX11_isAsNoted_107 : decode cX11_isAsNoted 107 = .ok (.iinc 3 1, 3) := by decide +kernel
theorem dX11_isAsNoted_110 : decode cX11_isAsNoted 110 = .ok (.goto (-106), 3) := by decide +kernel
theorem dX11_isAsNoted_113 : decode cX11_isAsNoted 113 = .ok (.aload_n 0, 1) := by decide +kernel
theorem dX11_isAsNoted_114 : decode cX11_isAsNoted 114 = .ok (.iconst 0, 1) := by decide +kernel
theorem dX11_isAsNoted_115 : decode cX11_isAsNoted 115 = .ok (.invokevirtual 405, 3) := by decide +kernel
theorem dX11_isAsNoted_118 : decode cX11_isAsNoted 118 = .ok (.pop, 1) := by decide +kernel
theorem dX11_isAsNoted_119 : decode cX11_isAsNoted 119 = .ok (.iload_n 2, 1) := by decide +kernel
theorem dX11_isAsNoted_120 : decode cX11_isAsNoted 120 = .ok (.ireturn, 1) := by decide +kernel
theorem dX11_tellFits_0 : decode cX11_tellFits 0 = .ok (.aload_n 0, 1) := by decide +kernel
theorem dX11_tellFits_1 : decode cX11_tellFits 1 = .ok (.iconst 0, 1) := by decide +kernel
theorem dX11_tellFits_2 : decode cX11_tellFits 2 = .ok (.putfield 435, 3) := by decide +kernel
theorem dX11_tellFits_5 : decode cX11_tellFits 5 = .ok (.aload_n 0, 1) := by decide +kernel
theorem dX11_tellFits_6 : decode cX11_tellFits 6 = .ok (.invokevirtual 402, 3) := by decide +kernel
theorem dX11_tellFits_9 : decode cX11_tellFits 9 = .ok (.aload_n 0, 1) := by decide +kernel
theorem dX11_tellFits_10 : decode cX11_tellFits 10 = .ok (.getfield 59, 3) := by decide +kernel
theorem dX11_tellFits_13 : decode cX11_tellFits 13 = .ok (.bipush 27, 2) := by decide +kernel
theorem dX11_tellFits_15 : decode cX11_tellFits 15 = .ok (.iaload, 1) := by decide +kernel
theorem dX11_tellFits_16 : decode cX11_tellFits 16 = .ok (.istore_n 1, 1) := by decide +kernel
theorem dX11_tellFits_17 : decode cX11_tellFits 17 = .ok (.bipush (-99), 2) := by decide +kernel
theorem dX11_tellFits_19 : decode cX11_tellFits 19 = .ok (.istore_n 2, 1) := by decide +kernel
theorem dX11_tellFits_20 : decode cX11_tellFits 20 = .ok (.iload_n 2, 1) := by decide +kernel
theorem dX11_tellFits_21 : decode cX11_tellFits 21 = .ok (.bipush 99, 2) := by decide +kernel
theorem dX11_tellFits_23 : decode cX11_tellFits 23 = .ok (.if_icmp .gt 59, 3) := by decide +kernel
theorem dX11_tellFits_26 : decode cX11_tellFits 26 = .ok (.iload_n 2, 1) := by decide +kernel
theorem dX11_tellFits_27 : decode cX11_tellFits 27 = .ok (.iload_n 1, 1) := by decide +kernel
theorem dX11_tellFits_28 : decode cX11_tellFits 28 = .ok (.if_icmp .ne 6, 3) := by decide +kernel
theorem dX11_tellFits_31 : decode cX11_tellFits 31 = .ok (.goto 45, 3) := by decide +kernel
theorem dX11_tellFits_34 : decode cX11_tellFits 34 = .ok (.aload_n 0, 1) := by decide +kernel
theorem dX11_tellFits_35 : decode cX11_tellFits 35 = .ok (.getfield 59, 3) := by decide +kernel
theorem dX11_tellFits_38 : decode cX11_tellFits 38 = .ok (.bipush 27, 2) := by decide +kernel
theorem dX11_tellFits_40 : decode cX11_tellFits 40 = .ok (.iload_n 2, 1) := by decide +kernel
theorem dX11_tellFits_41 : decode cX11_tellFits 41 = .ok (.iastore, 1) := by decide +kernel
theorem dX11_tellFits_42 : decode cX11_tellFits 42 = .ok (.aload_n 0, 1) := by decide +kernel
theorem dX11_tellFits_43 : decode cX11_tellFits 43 = .ok (.aload_n 0, 1) := by decide +kernel
theorem dX11_tellFits_44 : decode cX11_tellFits 44 = .ok (.getfield 435, 3) := by decide +kernel
theorem dX11_tellFits_47 : decode cX11_tellFits 47 = .ok (.invokevirtual 438, 3) := by decide +kernel
theorem dX11_tellFits_50 : decode cX11_tellFits 50 = .ok (.ifCond .ne 6, 3) := by decide +kernel
theorem dX11_tellFits_53 : decode cX11_tellFits 53 = .ok (.goto 23, 3) := by decide +kernel
theorem dX11_tellFits_56 : decode cX11_tellFits 56 = .ok (.aload_n 0, 1) := by decide +kernel
theorem dX11_tellFits_57 : decode cX11_tellFits 57 = .ok (.getfield 100, 3) := by decide +kernel
theorem dX11_tellFits_60 : decode cX11_tellFits 60 = .ok (.aload_n 0, 1) := by decide +kernel
theorem dX11_tellFits_61 : decode cX11_tellFits 61 = .ok (.getfield 435, 3) := by decide +kernel
theorem dX11_tellFits_64 : decode cX11_tellFits 64 = .ok (.iload_n 2, 1) := by decide +kernel
theorem dX11_tellFits_65 : decode cX11_tellFits 65 = .ok (.iastore, 1) := by decide +kernel
theorem dX11_tellFits_66 : decode cX11_tellFits 66 = .ok (.aload_n 0, 1) := by decide +kernel
theorem dX11_tellFits_67 : decode cX11_tellFits 67 = .ok (.dup, 1) := by decide +kernel
theorem dX11_tellFits_68 : decode cX11_tellFits 68 = .ok (.getfield 435, 3) := by decide +kernel
theorem dX11_tellFits_71 : decode cX11_tellFits 71 = .ok (.iconst 1, 1) := by decide +kernel
theorem dX11_tellFits_72 : decode cX11_tellFits 72 = .ok (.iadd, 1) := by decide +kernel
theorem dX11_tellFits_73 : decode cX11_tellFits 73 = .ok (.putfield 435, 3) := by decide +kernel
theorem dX11_tellFits_76 : decode cX11_tellFits 76 = .ok (.iinc 2 1, 3) := by decide +kernel
theorem dX11_tellFits_79 : decode cX11_tellFits 79 = .ok (.goto (-59), 3) := by decide +kernel
theorem dX11_tellFits_82 : decode cX11_tellFits 82 = .ok (.return_, 1) := by decide +kernel
theorem dX11_other_0 : decode cX11_other 0 = .ok (.aload_n 0, 1) := by decide +kernel
theorem dX11_other_1 : decode cX11_other 1 = .ok (.invokevirtual 247, 3) := by decide +kernel
theorem dX11_other_4 : decode cX11_other 4 = .ok (.iload_n 1, 1) := by decide +kernel
theorem dX11_other_5 : decode cX11_other 5 = .ok (.i2l, 1) := by decide +kernel
theorem dX11_other_6 : decode cX11_other 6 = .ok (.lconst 0, 1) := by decide +kernel
theorem dX11_other_7 : decode cX11_other 7 = .ok (.ldc2_w 362, 3) := by decide +kernel
theorem dX11_other_10 : decode cX11_other 10 = .ok (.invokestatic 358, 3) := by decide +kernel
theorem dX11_other_13 : decode cX11_other 13 = .ok (.ifCond .ne 9, 3) := by decide +kernel
theorem dX11_other_16 : decode cX11_other 16 = .ok (.aload_n 0, 1) := by decide +kernel
theorem dX11_other_17 : decode cX11_other 17 = .ok (.iconst 1, 1) := by decide +kernel
theorem dX11_other_18 : decode cX11_other 18 = .ok (.invokevirtual 250, 3) := by decide +kernel
theorem dX11_other_21 : decode cX11_other 21 = .ok (.ireturn, 1) := by decide +kernel
theorem dX11_other_22 : decode cX11_other 22 = .ok (.iload_n 1, 1) := by decide +kernel
theorem dX11_other_23 : decode cX11_other 23 = .ok (.iconst 2, 1) := by decide +kernel
theorem dX11_other_24 : decode cX11_other 24 = .ok (.if_icmp .ne 21, 3) := by decide +kernel
theorem dX11_other_27 : decode cX11_other 27 = .ok (.aload_n 0, 1) := by decide +kernel
theorem dX11_other_28 : decode cX11_other 28 = .ok (.invokevirtual 402, 3) := by decide +kernel
theorem dX11_other_31 : decode cX11_other 31 = .ok (.aload_n 0, 1) := by decide +kernel
theorem dX11_other_32 : decode cX11_other 32 = .ok (.iconst 0, 1) := by decide +kernel
theorem dX11_other_33 : decode cX11_other 33 = .ok (.invokevirtual 438, 3) := by decide +kernel
theorem dX11_other_36 : decode cX11_other 36 = .ok (.ifCond .eq 7, 3) := by decide +kernel
theorem dX11_other_39 : decode cX11_other 39 = .ok (.iconst 1, 1) := by decide +kernel
theorem dX11_other_40 : decode cX11_other 40 = .ok (.goto 4, 3) := by decide +kernel
theorem dX11_other_43 : decode cX11_other 43 = .ok (.iconst 0, 1) := by decide +kernel
theorem dX11_other_44 : decode cX11_other 44 = .ok (.ireturn, 1) := by decide +kernel
theorem dX11_other_45 : decode cX11_other 45 = .ok (.aload_n 0, 1) := by decide +kernel
theorem dX11_other_46 : decode cX11_other 46 = .ok (.invokevirtual 441, 3) := by decide +kernel
theorem dX11_other_49 : decode cX11_other 49 = .ok (.iload_n 1, 1) := by decide +kernel
theorem dX11_other_50 : decode cX11_other 50 = .ok (.ifCond .ne 10, 3) := by decide +kernel
theorem dX11_other_53 : decode cX11_other 53 = .ok (.aload_n 0, 1) := by decide +kernel
theorem dX11_other_54 : decode cX11_other 54 = .ok (.getfield 435, 3) := by decide +kernel
theorem dX11_other_57 : decode cX11_other 57 = .ok (.goto 21, 3) := by decide +kernel
theorem dX11_other_60 : decode cX11_other 60 = .ok (.aload_n 0, 1) := by decide +kernel
theorem dX11_other_61 : decode cX11_other 61 = .ok (.getfield 435, 3) := by decide +kernel
theorem dX11_other_64 : decode cX11_other 64 = .ok (.ifCond .ne 8, 3) := by decide +kernel
theorem dX11_other_67 : decode cX11_other 67 = .ok (.bipush 100, 2) := by decide +kernel
theorem dX11_other_69 : decode cX11_other 69 = .ok (.goto 9, 3) := by decide +kernel
theorem dX11_other_72 : decode cX11_other 72 = .ok (.aload_n 0, 1) := by decide +kernel
theorem dX11_other_73 : decode cX11_other 73 = .ok (.getfield 100, 3) := by decide +kernel
theorem dX11_other_76 : decode cX11_other 76 = .ok (.iconst 0, 1) := by decide +kernel
theorem dX11_other_77 : decode cX11_other 77 = .ok (.iaload, 1) := by decide +kernel
theorem dX11_other_78 : decode cX11_other 78 = .ok (.ireturn, 1) := by decide +kernel
theorem dX11_unlikeAt_0 : decode cX11_unlikeAt 0 = .ok (.iconst 0, 1) := by decide +kernel
theorem dX11_unlikeAt_1 : decode cX11_unlikeAt 1 = .ok (.istore_n 2, 1) := by decide +kernel
theorem dX11_unlikeAt_2 : decode cX11_unlikeAt 2 = .ok (.iconst 0, 1) := by decide +kernel
theorem dX11_unlikeAt_3 : decode cX11_unlikeAt 3 = .ok (.istore_n 3, 1) := by decide +kernel
theorem dX11_unlikeAt_4 : decode cX11_unlikeAt 4 = .ok (.iload_n 3, 1) := by decide +kernel
theorem dX11_unlikeAt_5 : decode cX11_unlikeAt 5 = .ok (.aload_n 0, 1) := by decide +kernel
theorem dX11_unlikeAt_6 : decode cX11_unlikeAt 6 = .ok (.getfield 435, 3) := by decide +kernel
theorem dX11_unlikeAt_9 : decode cX11_unlikeAt 9 = .ok (.if_icmp .ge 76, 3) := by decide +kernel
theorem dX11_unlikeAt_12 : decode cX11_unlikeAt 12 = .ok (.iconst 1, 1) := by decide +kernel
theorem dX11_unlikeAt_13 : decode cX11_unlikeAt 13 = .ok (.istore 4, 2) := by decide +kernel
theorem dX11_unlikeAt_15 : decode cX11_unlikeAt 15 = .ok (.iconst 0, 1) := by decide +kernel
theorem dX11_unlikeAt_16 : decode cX11_unlikeAt 16 = .ok (.istore 5, 2) := by decide +kernel
theorem dX11_unlikeAt_18 : decode cX11_unlikeAt 18 = .ok (.iload 5, 2) := by decide +kernel
theorem dX11_unlikeAt_20 : decode cX11_unlikeAt 20 = .ok (.iload_n 3, 1) := by decide +kernel
theorem dX11_unlikeAt_21 : decode cX11_unlikeAt 21 = .ok (.if_icmp .ge 45, 3) := by decide +kernel
theorem dX11_unlikeAt_24 : decode cX11_unlikeAt 24 = .ok (.iload 4, 2) := by decide +kernel
theorem dX11_unlikeAt_26 : decode cX11_unlikeAt 26 = .ok (.ifCond .eq 40, 3) := by decide +kernel
theorem dX11_unlikeAt_29 : decode cX11_unlikeAt 29 = .ok (.aload_n 0, 1) := by decide +kernel
theorem dX11_unlikeAt_30 : decode cX11_unlikeAt 30 = .ok (.getfield 103, 3) := by decide +kernel
theorem dX11_unlikeAt_33 : decode cX11_unlikeAt 33 = .ok (.iconst 5, 1) := by decide +kernel
theorem dX11_unlikeAt_34 : decode cX11_unlikeAt 34 = .ok (.iload 5, 2) := by decide +kernel
theorem dX11_unlikeAt_36 : decode cX11_unlikeAt 36 = .ok (.imul, 1) := by decide +kernel
theorem dX11_unlikeAt_37 : decode cX11_unlikeAt 37 = .ok (.iload_n 1, 1) := by decide +kernel
theorem dX11_unlikeAt_38 : decode cX11_unlikeAt 38 = .ok (.iadd, 1) := by decide +kernel
theorem dX11_unlikeAt_39 : decode cX11_unlikeAt 39 = .ok (.iaload, 1) := by decide +kernel
theorem dX11_unlikeAt_40 : decode cX11_unlikeAt 40 = .ok (.aload_n 0, 1) := by decide +kernel
theorem dX11_unlikeAt_41 : decode cX11_unlikeAt 41 = .ok (.getfield 103, 3) := by decide +kernel
theorem dX11_unlikeAt_44 : decode cX11_unlikeAt 44 = .ok (.iconst 5, 1) := by decide +kernel
theorem dX11_unlikeAt_45 : decode cX11_unlikeAt 45 = .ok (.iload_n 3, 1) := by decide +kernel
theorem dX11_unlikeAt_46 : decode cX11_unlikeAt 46 = .ok (.imul, 1) := by decide +kernel
theorem dX11_unlikeAt_47 : decode cX11_unlikeAt 47 = .ok (.iload_n 1, 1) := by decide +kernel
theorem dX11_unlikeAt_48 : decode cX11_unlikeAt 48 = .ok (.iadd, 1) := by decide +kernel
theorem dX11_unlikeAt_49 : decode cX11_unlikeAt 49 = .ok (.iaload, 1) := by decide +kernel
theorem dX11_unlikeAt_50 : decode cX11_unlikeAt 50 = .ok (.if_icmp .eq 7, 3) := by decide +kernel
theorem dX11_unlikeAt_53 : decode cX11_unlikeAt 53 = .ok (.iconst 1, 1) := by decide +kernel
theorem dX11_unlikeAt_54 : decode cX11_unlikeAt 54 = .ok (.goto 4, 3) := by decide +kernel
theorem dX11_unlikeAt_57 : decode cX11_unlikeAt 57 = .ok (.iconst 0, 1) := by decide +kernel
theorem dX11_unlikeAt_58 : decode cX11_unlikeAt 58 = .ok (.istore 4, 2) := by decide +kernel
theorem dX11_unlikeAt_60 : decode cX11_unlikeAt 60 = .ok (.iinc 5 1, 3) := by decide +kernel
theorem dX11_unlikeAt_63 : decode cX11_unlikeAt 63 = .ok (.goto (-45), 3) := by decide +kernel
theorem dX11_unlikeAt_66 : decode cX11_unlikeAt 66 = .ok (.iload_n 2, 1) := by decide +kernel
theorem dX11_unlikeAt_67 : decode cX11_unlikeAt 67 = .ok (.iload 4, 2) := by decide +kernel
theorem dX11_unlikeAt_69 : decode cX11_unlikeAt 69 = .ok (.ifCond .eq 7, 3) := by decide +kernel
theorem dX11_unlikeAt_72 : decode cX11_unlikeAt 72 = .ok (.iconst 1, 1) := by decide +kernel
theorem dX11_unlikeAt_73 : decode cX11_unlikeAt 73 = .ok (.goto 4, 3) := by decide +kernel
theorem dX11_unlikeAt_76 : decode cX11_unlikeAt 76 = .ok (.iconst 0, 1) := by decide +kernel
theorem dX11_unlikeAt_77 : decode cX11_unlikeAt 77 = .ok (.iadd, 1) := by decide +kernel
theorem dX11_unlikeAt_78 : decode cX11_unlikeAt 78 = .ok (.istore_n 2, 1) := by decide +kernel
theorem dX11_unlikeAt_79 : decode cX11_unlikeAt 79 = .ok (.iinc 3 1, 3) := by decide +kernel
theorem dX11_unlikeAt_82 : decode cX11_unlikeAt 82 = .ok (.goto (-78), 3) := by decide +kernel
theorem dX11_unlikeAt_85 : decode cX11_unlikeAt 85 = .ok (.iload_n 2, 1) := by decide +kernel
theorem dX11_unlikeAt_86 : decode cX11_unlikeAt 86 = .ok (.ireturn, 1) := by decide +kernel
theorem dX11_look_0 : decode cX11_look 0 = .ok (.aload_n 0, 1) := by decide +kernel
theorem dX11_look_1 : decode cX11_look 1 = .ok (.invokevirtual 247, 3) := by decide +kernel
theorem dX11_look_4 : decode cX11_look 4 = .ok (.iload_n 1, 1) := by decide +kernel
theorem dX11_look_5 : decode cX11_look 5 = .ok (.i2l, 1) := by decide +kernel
theorem dX11_look_6 : decode cX11_look 6 = .ok (.lconst 0, 1) := by decide +kernel
theorem dX11_look_7 : decode cX11_look 7 = .ok (.lconst 1, 1) := by decide +kernel
theorem dX11_look_8 : decode cX11_look 8 = .ok (.invokestatic 358, 3) := by decide +kernel
theorem dX11_look_11 : decode cX11_look 11 = .ok (.ifCond .ne 9, 3) := by decide +kernel
theorem dX11_look_14 : decode cX11_look 14 = .ok (.aload_n 0, 1) := by decide +kernel
theorem dX11_look_15 : decode cX11_look 15 = .ok (.iconst 1, 1) := by decide +kernel
theorem dX11_look_16 : decode cX11_look 16 = .ok (.invokevirtual 250, 3) := by decide +kernel
theorem dX11_look_19 : decode cX11_look 19 = .ok (.ireturn, 1) := by decide +kernel
theorem dX11_look_20 : decode cX11_look 20 = .ok (.aload_n 0, 1) := by decide +kernel
theorem dX11_look_21 : decode cX11_look 21 = .ok (.invokevirtual 441, 3) := by decide +kernel
theorem dX11_look_24 : decode cX11_look 24 = .ok (.iconst (-1), 1) := by decide +kernel
theorem dX11_look_25 : decode cX11_look 25 = .ok (.istore_n 2, 1) := by decide +kernel
theorem dX11_look_26 : decode cX11_look 26 = .ok (.iconst 0, 1) := by decide +kernel
theorem dX11_look_27 : decode cX11_look 27 = .ok (.istore_n 3, 1) := by decide +kernel
theorem dX11_look_28 : decode cX11_look 28 = .ok (.iconst 0, 1) := by decide +kernel
theorem dX11_look_29 : decode cX11_look 29 = .ok (.istore 4, 2) := by decide +kernel
theorem dX11_look_31 : decode cX11_look 31 = .ok (.iload 4, 2) := by decide +kernel
theorem dX11_look_33 : decode cX11_look 33 = .ok (.iconst 5, 1) := by decide +kernel
theorem dX11_look_34 : decode cX11_look 34 = .ok (.if_icmp .ge 37, 3) := by decide +kernel
theorem dX11_look_37 : decode cX11_look 37 = .ok (.aload_n 0, 1) := by decide +kernel
theorem dX11_look_38 : decode cX11_look 38 = .ok (.iload 4, 2) := by decide +kernel
theorem dX11_look_40 : decode cX11_look 40 = .ok (.invokevirtual 444, 3) := by decide +kernel
theorem dX11_look_43 : decode cX11_look 43 = .ok (.istore 5, 2) := by decide +kernel
theorem dX11_look_45 : decode cX11_look 45 = .ok (.iload 5, 2) := by decide +kernel
theorem dX11_look_47 : decode cX11_look 47 = .ok (.iload_n 3, 1) := by decide +kernel
theorem dX11_look_48 : decode cX11_look 48 = .ok (.if_icmp .gt 6, 3) := by decide +kernel
theorem dX11_look_51 : decode cX11_look 51 = .ok (.goto 14, 3) := by decide +kernel
theorem dX11_look_54 : decode cX11_look 54 = .ok (.bipush 10, 2) := by decide +kernel
theorem dX11_look_56 : decode cX11_look 56 = .ok (.iload 4, 2) := by decide +kernel
theorem dX11_look_58 : decode cX11_look 58 = .ok (.iconst 1, 1) := by decide +kernel
theorem dX11_look_59 : decode cX11_look 59 = .ok (.iadd, 1) := by decide +kernel
theorem dX11_look_60 : decode cX11_look 60 = .ok (.imul, 1) := by decide +kernel
theorem dX11_look_61 : decode cX11_look 61 = .ok (.istore_n 2, 1) := by decide +kernel
theorem dX11_look_62 : decode cX11_look 62 = .ok (.iload 5, 2) := by decide +kernel
theorem dX11_look_64 : decode cX11_look 64 = .ok (.istore_n 3, 1) := by decide +kernel
theorem dX11_look_65 : decode cX11_look 65 = .ok (.iinc 4 1, 3) := by decide +kernel
theorem dX11_look_68 : decode cX11_look 68 = .ok (.goto (-37), 3) := by decide +kernel
theorem dX11_look_71 : decode cX11_look 71 = .ok (.iload_n 1, 1) := by decide +kernel
theorem dX11_look_72 : decode cX11_look 72 = .ok (.ifCond .ne 7, 3) := by decide +kernel
theorem dX11_look_75 : decode cX11_look 75 = .ok (.iload_n 2, 1) := by decide +kernel
theorem dX11_look_76 : decode cX11_look 76 = .ok (.goto 4, 3) := by decide +kernel
theorem dX11_look_79 : decode cX11_look 79 = .ok (.iload_n 3, 1) := by decide +kernel
theorem dX11_look_80 : decode cX11_look 80 = .ok (.ireturn, 1) := by decide +kernel
theorem dX11_forget_0 : decode cX11_forget 0 = .ok (.aload_n 0, 1) := by decide +kernel
theorem dX11_forget_1 : decode cX11_forget 1 = .ok (.invokevirtual 247, 3) := by decide +kernel
theorem dX11_forget_4 : decode cX11_forget 4 = .ok (.aload_n 0, 1) := by decide +kernel
theorem dX11_forget_5 : decode cX11_forget 5 = .ok (.iconst 0, 1) := by decide +kernel
theorem dX11_forget_6 : decode cX11_forget 6 = .ok (.putfield 281, 3) := by decide +kernel
theorem dX11_forget_9 : decode cX11_forget 9 = .ok (.return_, 1) := by decide +kernel
theorem dX11_storms_0 : decode cX11_storms 0 = .ok (.aload_n 0, 1) := by decide +kernel
theorem dX11_storms_1 : decode cX11_storms 1 = .ok (.invokevirtual 247, 3) := by decide +kernel
theorem dX11_storms_4 : decode cX11_storms 4 = .ok (.iload_n 1, 1) := by decide +kernel
theorem dX11_storms_5 : decode cX11_storms 5 = .ok (.i2l, 1) := by decide +kernel
theorem dX11_storms_6 : decode cX11_storms 6 = .ok (.lconst 1, 1) := by decide +kernel
theorem dX11_storms_7 : decode cX11_storms 7 = .ok (.ldc2_w 398, 3) := by decide +kernel
theorem dX11_storms_10 : decode cX11_storms 10 = .ok (.invokestatic 358, 3) := by decide +kernel
theorem dX11_storms_13 : decode cX11_storms 13 = .ok (.ifCond .eq 15, 3) := by decide +kernel
theorem dX11_storms_16 : decode cX11_storms 16 = .ok (.iload_n 2, 1) := by decide +kernel
theorem dX11_storms_17 : decode cX11_storms 17 = .ok (.i2l, 1) := by decide +kernel
theorem dX11_storms_18 : decode cX11_storms 18 = .ok (.lconst 0, 1) := by decide +kernel
theorem dX11_storms_19 : decode cX11_storms 19 = .ok (.ldc2_w 447, 3) := by decide +kernel
theorem dX11_storms_22 : decode cX11_storms 22 = .ok (.invokestatic 358, 3) := by decide +kernel
theorem dX11_storms_25 : decode cX11_storms 25 = .ok (.ifCond .ne 9, 3) := by decide +kernel
theorem dX11_storms_28 : decode cX11_storms 28 = .ok (.aload_n 0, 1) := by decide +kernel
theorem dX11_storms_29 : decode cX11_storms 29 = .ok (.iconst 1, 1) := by decide +kernel
theorem dX11_storms_30 : decode cX11_storms 30 = .ok (.invokevirtual 250, 3) := by decide +kernel
theorem dX11_storms_33 : decode cX11_storms 33 = .ok (.ireturn, 1) := by decide +kernel
theorem dX11_storms_34 : decode cX11_storms 34 = .ok (.iconst 0, 1) := by decide +kernel
theorem dX11_storms_35 : decode cX11_storms 35 = .ok (.istore_n 3, 1) := by decide +kernel
theorem dX11_storms_36 : decode cX11_storms 36 = .ok (.aload_n 0, 1) := by decide +kernel
theorem dX11_storms_37 : decode cX11_storms 37 = .ok (.invokevirtual 402, 3) := by decide +kernel
theorem dX11_storms_40 : decode cX11_storms 40 = .ok (.iconst 0, 1) := by decide +kernel
theorem dX11_storms_41 : decode cX11_storms 41 = .ok (.istore 4, 2) := by decide +kernel
theorem dX11_storms_43 : decode cX11_storms 43 = .ok (.iload 4, 2) := by decide +kernel
theorem dX11_storms_45 : decode cX11_storms 45 = .ok (.iconst 1, 1) := by decide +kernel
theorem dX11_storms_46 : decode cX11_storms 46 = .ok (.iload_n 1, 1) := by decide +kernel
theorem dX11_storms_47 : decode cX11_storms 47 = .ok (.ishl, 1) := by decide +kernel
theorem dX11_storms_48 : decode cX11_storms 48 = .ok (.if_icmp .ge 104, 3) := by decide +kernel
theorem dX11_storms_51 : decode cX11_storms 51 = .ok (.iconst 1, 1) := by decide +kernel
theorem dX11_storms_52 : decode cX11_storms 52 = .ok (.istore 5, 2) := by decide +kernel
theorem dX11_storms_54 : decode cX11_storms 54 = .ok (.iconst 0, 1) := by decide +kernel
theorem dX11_storms_55 : decode cX11_storms 55 = .ok (.istore 6, 2) := by decide +kernel
theorem dX11_storms_57 : decode cX11_storms 57 = .ok (.iload 6, 2) := by decide +kernel
theorem dX11_storms_59 : decode cX11_storms 59 = .ok (.iload_n 1, 1) := by decide +kernel
theorem dX11_storms_60 : decode cX11_storms 60 = .ok (.if_icmp .ge 32, 3) := by decide +kernel
theorem dX11_storms_63 : decode cX11_storms 63 = .ok (.iload 5, 2) := by decide +kernel
theorem dX11_storms_65 : decode cX11_storms 65 = .ok (.iload 4, 2) := by decide +kernel
theorem dX11_storms_67 : decode cX11_storms 67 = .ok (.iload 6, 2) := by decide +kernel
theorem dX11_storms_69 : decode cX11_storms 69 = .ok (.invokestatic 240, 3) := by decide +kernel
theorem dX11_storms_72 : decode cX11_storms 72 = .ok (.ifCond .eq 7, 3) := by decide +kernel
theorem dX11_storms_75 : decode cX11_storms 75 = .ok (.iload_n 2, 1) := by decide +kernel
theorem dX11_storms_76 : decode cX11_storms 76 = .ok (.goto 7, 3) := by decide +kernel
theorem dX11_storms_79 : decode cX11_storms 79 = .ok (.bipush 10, 2) := by decide +kernel
theorem dX11_storms_81 : decode cX11_storms 81 = .ok (.iload_n 2, 1) := by decide +kernel
theorem dX11_storms_82 : decode cX11_storms 82 = .ok (.isub, 1) := by decide +kernel
theorem dX11_storms_83 : decode cX11_storms 83 = .ok (.imul, 1) := by decide +kernel
theorem dX11_storms_84 : decode cX11_storms 84 = .ok (.istore 5, 2) := by decide +kernel
theorem dX11_storms_86 : decode cX11_storms 86 = .ok (.iinc 6 1, 3) := by decide +kernel
theorem dX11_storms_89 : decode cX11_storms 89 = .ok (.goto (-32), 3) := by decide +kernel
theorem dX11_storms_92 : decode cX11_storms 92 = .ok (.aload_n 0, 1) := by decide +kernel
theorem dX11_storms_93 : decode cX11_storms 93 = .ok (.iload_n 1, 1) := by decide +kernel
theorem dX11_storms_94 : decode cX11_storms 94 = .ok (.putfield 298, 3) := by decide +kernel
theorem dX11_storms_97 : decode cX11_storms 97 = .ok (.aload_n 0, 1) := by decide +kernel
theorem dX11_storms_98 : decode cX11_storms 98 = .ok (.iload 4, 2) := by decide +kernel
theorem dX11_storms_100 : decode cX11_storms 100 = .ok (.putfield 301, 3) := by decide +kernel
theorem dX11_storms_103 : decode cX11_storms 103 = .ok (.aload_n 0, 1) := by decide +kernel
theorem dX11_storms_104 : decode cX11_storms 104 = .ok (.bipush 80, 2) := by decide +kernel
theorem dX11_storms_106 : decode cX11_storms 106 = .ok (.invokevirtual 387, 3) := by decide +kernel
theorem dX11_storms_109 : decode cX11_storms 109 = .ok (.iload_n 3, 1) := by decide +kernel
theorem dX11_storms_110 : decode cX11_storms 110 = .ok (.aload_n 0, 1) := by decide +kernel
theorem dX11_storms_111 : decode cX11_storms 111 = .ok (.getfield 59, 3) := by decide +kernel
theorem dX11_storms_114 : decode cX11_storms 114 = .ok (.bipush 7, 2) := by decide +kernel
theorem dX11_storms_116 : decode cX11_storms 116 = .ok (.iaload, 1) := by decide +kernel
theorem dX11_storms_117 : decode cX11_storms 117 = .ok (.aload_n 0, 1) := by decide +kernel
theorem dX11_storms_118 : decode cX11_storms 118 = .ok (.getfield 88, 3) := by decide +kernel
theorem dX11_storms_121 : decode cX11_storms 121 = .ok (.bipush 7, 2) := by decide +kernel
theorem dX11_storms_123 : decode cX11_storms 123 = .ok (.iaload, 1) := by decide +kernel
theorem dX11_storms_124 : decode cX11_storms 124 = .ok (.if_icmp .ne 8, 3) := by decide +kernel
theorem dX11_storms_127 : decode cX11_storms 127 = .ok (.iload 5, 2) := by decide +kernel
theorem dX11_storms_129 : decode cX11_storms 129 = .ok (.goto 4, 3) := by decide +kernel
theorem dX11_storms_132 : decode cX11_storms 132 = .ok (.iconst 0, 1) := by decide +kernel
theorem dX11_storms_133 : decode cX11_storms 133 = .ok (.iadd, 1) := by decide +kernel
theorem dX11_storms_134 : decode cX11_storms 134 = .ok (.istore_n 3, 1) := by decide +kernel
theorem dX11_storms_135 : decode cX11_storms 135 = .ok (.aload_n 0, 1) := by decide +kernel
theorem dX11_storms_136 : decode cX11_storms 136 = .ok (.iconst 0, 1) := by decide +kernel
theorem dX11_storms_137 : decode cX11_storms 137 = .ok (.putfield 298, 3) := by decide +kernel
theorem dX11_storms_140 : decode cX11_storms 140 = .ok (.aload_n 0, 1) := by decide +kernel
theorem dX11_storms_141 : decode cX11_storms 141 = .ok (.iconst 0, 1) := by decide +kernel
theorem dX11_storms_142 : decode cX11_storms 142 = .ok (.invokevirtual 405, 3) := by decide +kernel
theorem dX11_storms_145 : decode cX11_storms 145 = .ok (.pop, 1) := by decide +kernel
theorem dX11_storms_146 : decode cX11_storms 146 = .ok (.iinc 4 1, 3) := by decide +kernel
theorem dX11_storms_149 : decode cX11_storms 149 = .ok (.goto (-106), 3) := by decide +kernel
theorem dX11_storms_152 : decode cX11_storms 152 = .ok (.iload_n 3, 1) := by decide +kernel
theorem dX11_storms_153 : decode cX11_storms 153 = .ok (.ireturn, 1) := by decide +kernel
theorem dX11_drawOf_0 : decode cX11_drawOf 0 = .ok (.aload_n 0, 1) := by decide +kernel
theorem dX11_drawOf_1 : decode cX11_drawOf 1 = .ok (.aload_n 0, 1) := by decide +kernel
theorem dX11_drawOf_2 : decode cX11_drawOf 2 = .ok (.getfield 449, 3) := by decide +kernel
theorem dX11_drawOf_5 : decode cX11_drawOf 5 = .ok (.ldc_w 452, 3) := by decide +kernel
theorem dX11_drawOf_8 : decode cX11_drawOf 8 = .ok (.imul, 1) := by decide +kernel
theorem dX11_drawOf_9 : decode cX11_drawOf 9 = .ok (.sipush 12345, 3) := by decide +kernel
theorem dX11_drawOf_12 : decode cX11_drawOf 12 = .ok (.iadd, 1) := by decide +kernel
theorem dX11_drawOf_13 : decode cX11_drawOf 13 = .ok (.putfield 449, 3) := by decide +kernel
theorem dX11_drawOf_16 : decode cX11_drawOf 16 = .ok (.aload_n 0, 1) := by decide +kernel
theorem dX11_drawOf_17 : decode cX11_drawOf 17 = .ok (.getfield 449, 3) := by decide +kernel
theorem dX11_drawOf_20 : decode cX11_drawOf 20 = .ok (.bipush 16, 2) := by decide +kernel
theorem dX11_drawOf_22 : decode cX11_drawOf 22 = .ok (.ishr, 1) := by decide +kernel
theorem dX11_drawOf_23 : decode cX11_drawOf 23 = .ok (.sipush 32767, 3) := by decide +kernel
theorem dX11_drawOf_26 : decode cX11_drawOf 26 = .ok (.iand, 1) := by decide +kernel
theorem dX11_drawOf_27 : decode cX11_drawOf 27 = .ok (.iload_n 1, 1) := by decide +kernel
theorem dX11_drawOf_28 : decode cX11_drawOf 28 = .ok (.irem, 1) := by decide +kernel
theorem dX11_drawOf_29 : decode cX11_drawOf 29 = .ok (.ireturn, 1) := by decide +kernel
theorem dX11_years_0 : decode cX11_years 0 = .ok (.aload_n 0, 1) := by decide +kernel
theorem dX11_years_1 : decode cX11_years 1 = .ok (.invokevirtual 247, 3) := by decide +kernel
theorem dX11_years_4 : decode cX11_years 4 = .ok (.iload_n 3, 1) := by decide +kernel
theorem dX11_years_5 : decode cX11_years 5 = .ok (.i2l, 1) := by decide +kernel
theorem dX11_years_6 : decode cX11_years 6 = .ok (.lconst 0, 1) := by decide +kernel
theorem dX11_years_7 : decode cX11_years 7 = .ok (.ldc2_w 362, 3) := by decide +kernel
theorem dX11_years_10 : decode cX11_years 10 = .ok (.invokestatic 358, 3) := by decide +kernel
theorem dX11_years_13 : decode cX11_years 13 = .ok (.ifCond .ne 9, 3) := by decide +kernel
theorem dX11_years_16 : decode cX11_years 16 = .ok (.aload_n 0, 1) := by decide +kernel
theorem dX11_years_17 : decode cX11_years 17 = .ok (.iconst 1, 1) := by decide +kernel
theorem dX11_years_18 : decode cX11_years 18 = .ok (.invokevirtual 250, 3) := by decide +kernel
theorem dX11_years_21 : decode cX11_years 21 = .ok (.ireturn, 1) := by decide +kernel
theorem dX11_years_22 : decode cX11_years 22 = .ok (.iload_n 2, 1) := by decide +kernel
theorem dX11_years_23 : decode cX11_years 23 = .ok (.i2l, 1) := by decide +kernel
theorem dX11_years_24 : decode cX11_years 24 = .ok (.lconst 0, 1) := by decide +kernel
theorem dX11_years_25 : decode cX11_years 25 = .ok (.ldc2_w 431, 3) := by decide +kernel
theorem dX11_years_28 : decode cX11_years 28 = .ok (.invokestatic 358, 3) := by decide +kernel
theorem dX11_years_31 : decode cX11_years 31 = .ok (.ifCond .ne 9, 3) := by decide +kernel
theorem dX11_years_34 : decode cX11_years 34 = .ok (.aload_n 0, 1) := by decide +kernel
theorem dX11_years_35 : decode cX11_years 35 = .ok (.iconst 2, 1) := by decide +kernel
theorem dX11_years_36 : decode cX11_years 36 = .ok (.invokevirtual 250, 3) := by decide +kernel
theorem dX11_years_39 : decode cX11_years 39 = .ok (.ireturn, 1) := by decide +kernel
theorem dX11_years_40 : decode cX11_years 40 = .ok (.aload_n 0, 1) := by decide +kernel
theorem dX11_years_41 : decode cX11_years 41 = .ok (.invokevirtual 402, 3) := by decide +kernel
theorem dX11_years_44 : decode cX11_years 44 = .ok (.aload_n 0, 1) := by decide +kernel
theorem dX11_years_45 : decode cX11_years 45 = .ok (.iload_n 1, 1) := by decide +kernel
theorem dX11_years_46 : decode cX11_years 46 = .ok (.putfield 449, 3) := by decide +kernel
theorem dX11_years_49 : decode cX11_years 49 = .ok (.iconst 0, 1) := by decide +kernel
theorem dX11_years_50 : decode cX11_years 50 = .ok (.istore 4, 2) := by decide +kernel
theorem dX11_years_52 : decode cX11_years 52 = .ok (.iconst 0, 1) := by decide +kernel
theorem dX11_years_53 : decode cX11_years 53 = .ok (.istore 5, 2) := by decide +kernel
theorem dX11_years_55 : decode cX11_years 55 = .ok (.iload 5, 2) := by decide +kernel
theorem dX11_years_57 : decode cX11_years 57 = .ok (.iload_n 2, 1) := by decide +kernel
theorem dX11_years_58 : decode cX11_years 58 = .ok (.if_icmp .ge 91, 3) := by decide +kernel
theorem dX11_years_61 : decode cX11_years 61 = .ok (.aload_n 0, 1) := by decide +kernel
theorem dX11_years_62 : decode cX11_years 62 = .ok (.iconst 5, 1) := by decide +kernel
theorem dX11_years_63 : decode cX11_years 63 = .ok (.invokevirtual 453, 3) := by decide +kernel
theorem dX11_years_66 : decode cX11_years 66 = .ok (.istore 6, 2) := by decide +kernel
theorem dX11_years_68 : decode cX11_years 68 = .ok (.iload 6, 2) := by decide +kernel
theorem dX11_years_70 : decode cX11_years 70 = .ok (.ifCond .ne 15, 3) := by decide +kernel
theorem dX11_years_73 : decode cX11_years 73 = .ok (.aload_n 0, 1) := by decide +kernel
theorem dX11_years_74 : decode cX11_years 74 = .ok (.getfield 59, 3) := by decide +kernel
theorem dX11_years_77 : decode cX11_years 77 = .ok (.bipush 25, 2) := by decide +kernel
theorem dX11_years_79 : decode cX11_years 79 = .ok (.aload_n 0, 1) := by decide +kernel
theorem dX11_years_80 : decode cX11_years 80 = .ok (.iconst 4, 1) := by decide +kernel
theorem dX11_years_81 : decode cX11_years 81 = .ok (.invokevirtual 453, 3) := by decide +kernel
theorem dX11_years_84 : decode cX11_years 84 = .ok (.iastore, 1) := by decide +kernel
theorem dX11_years_85 : decode cX11_years 85 = .ok (.iload 6, 2) := by decide +kernel
theorem dX11_years_87 : decode cX11_years 87 = .ok (.iconst 1, 1) := by decide +kernel
theorem dX11_years_88 : decode cX11_years 88 = .ok (.if_icmp .ne 16, 3) := by decide +kernel
theorem dX11_years_91 : decode cX11_years 91 = .ok (.aload_n 0, 1) := by decide +kernel
theorem dX11_years_92 : decode cX11_years 92 = .ok (.getfield 59, 3) := by decide +kernel
theorem dX11_years_95 : decode cX11_years 95 = .ok (.bipush 26, 2) := by decide +kernel
theorem dX11_years_97 : decode cX11_years 97 = .ok (.aload_n 0, 1) := by decide +kernel
theorem dX11_years_98 : decode cX11_years 98 = .ok (.bipush 12, 2) := by decide +kernel
theorem dX11_years_100 : decode cX11_years 100 = .ok (.invokevirtual 453, 3) := by decide +kernel
theorem dX11_years_103 : decode cX11_years 103 = .ok (.iastore, 1) := by decide +kernel
theorem dX11_years_104 : decode cX11_years 104 = .ok (.iload 6, 2) := by decide +kernel
theorem dX11_years_106 : decode cX11_years 106 = .ok (.iconst 2, 1) := by decide +kernel
theorem dX11_years_107 : decode cX11_years 107 = .ok (.if_icmp .ne 19, 3) := by decide +kernel
theorem dX11_years_110 : decode cX11_years 110 = .ok (.aload_n 0, 1) := by decide +kernel
theorem dX11_years_111 : decode cX11_years 111 = .ok (.getfield 59, 3) := by decide +kernel
theorem dX11_years_114 : decode cX11_years 114 = .ok (.bipush 27, 2) := by decide +kernel
theorem dX11_years_116 : decode cX11_years 116 = .ok (.aload_n 0, 1) := by decide +kernel
theorem dX11_years_117 : decode cX11_years 117 = .ok (.bipush 41, 2) := by decide +kernel
theorem dX11_years_119 : decode cX11_years 119 = .ok (.invokevirtual 453, 3) := by decide +kernel
theorem dX11_years_122 : decode cX11_years 122 = .ok (.bipush 20, 2) := by decide +kernel
theorem dX11_years_124 : decode cX11_years 124 = .ok (.isub, 1) := by decide +kernel
theorem dX11_years_125 : decode cX11_years 125 = .ok (.iastore, 1) := by decide +kernel
theorem dX11_years_126 : decode cX11_years 126 = .ok (.aload_n 0, 1) := by decide +kernel
theorem dX11_years_127 : decode cX11_years 127 = .ok (.bipush 10, 2) := by decide +kernel
theorem dX11_years_129 : decode cX11_years 129 = .ok (.invokevirtual 387, 3) := by decide +kernel
theorem dX11_years_132 : decode cX11_years 132 = .ok (.iload 4, 2) := by decide +kernel
theorem dX11_years_134 : decode cX11_years 134 = .ok (.aload_n 0, 1) := by decide +kernel
theorem dX11_years_135 : decode cX11_years 135 = .ok (.invokevirtual 325, 3) := by decide +kernel
theorem dX11_years_138 : decode cX11_years 138 = .ok (.invokestatic 130, 3) := by decide +kernel
theorem dX11_years_141 : decode cX11_years 141 = .ok (.istore 4, 2) := by decide +kernel
theorem dX11_years_143 : decode cX11_years 143 = .ok (.iinc 5 1, 3) := by decide +kernel
theorem dX11_years_146 : decode cX11_years 146 = .ok (.goto (-91), 3) := by decide +kernel
theorem dX11_years_149 : decode cX11_years 149 = .ok (.aload_n 0, 1) := by decide +kernel
theorem dX11_years_150 : decode cX11_years 150 = .ok (.iload_n 3, 1) := by decide +kernel
theorem dX11_years_151 : decode cX11_years 151 = .ok (.ifCond .ne 21, 3) := by decide +kernel
theorem dX11_years_154 : decode cX11_years 154 = .ok (.aload_n 0, 1) := by decide +kernel
theorem dX11_years_155 : decode cX11_years 155 = .ok (.getfield 59, 3) := by decide +kernel
theorem dX11_years_158 : decode cX11_years 158 = .ok (.bipush 7, 2) := by decide +kernel
theorem dX11_years_160 : decode cX11_years 160 = .ok (.iaload, 1) := by decide +kernel
theorem dX11_years_161 : decode cX11_years 161 = .ok (.aload_n 0, 1) := by decide +kernel
theorem dX11_years_162 : decode cX11_years 162 = .ok (.getfield 88, 3) := by decide +kernel
theorem dX11_years_165 : decode cX11_years 165 = .ok (.bipush 7, 2) := by decide +kernel
theorem dX11_years_167 : decode cX11_years 167 = .ok (.iaload, 1) := by decide +kernel
theorem dX11_years_168 : decode cX11_years 168 = .ok (.isub, 1) := by decide +kernel
theorem dX11_years_169 : decode cX11_years 169 = .ok (.goto 28, 3) := by decide +kernel
theorem dX11_years_172 : decode cX11_years 172 = .ok (.iload_n 3, 1) := by decide +kernel
theorem dX11_years_173 : decode cX11_years 173 = .ok (.iconst 1, 1) := by decide +kernel
theorem dX11_years_174 : decode cX11_years 174 = .ok (.if_icmp .ne 21, 3) := by decide +kernel
theorem dX11_years_177 : decode cX11_years 177 = .ok (.aload_n 0, 1) := by decide +kernel
theorem dX11_years_178 : decode cX11_years 178 = .ok (.getfield 59, 3) := by decide +kernel
theorem dX11_years_181 : decode cX11_years 181 = .ok (.bipush 12, 2) := by decide +kernel
theorem dX11_years_183 : decode cX11_years 183 = .ok (.iaload, 1) := by decide +kernel
theorem dX11_years_184 : decode cX11_years 184 = .ok (.aload_n 0, 1) := by decide +kernel
theorem dX11_years_185 : decode cX11_years 185 = .ok (.getfield 88, 3) := by decide +kernel
theorem dX11_years_188 : decode cX11_years 188 = .ok (.bipush 12, 2) := by decide +kernel
theorem dX11_years_190 : decode cX11_years 190 = .ok (.iaload, 1) := by decide +kernel
theorem dX11_years_191 : decode cX11_years 191 = .ok (.isub, 1) := by decide +kernel
theorem dX11_years_192 : decode cX11_years 192 = .ok (.goto 5, 3) := by decide +kernel
theorem dX11_years_195 : decode cX11_years 195 = .ok (.iload 4, 2) := by decide +kernel
theorem dX11_years_197 : decode cX11_years 197 = .ok (.invokevirtual 405, 3) := by decide +kernel
theorem dX11_years_200 : decode cX11_years 200 = .ok (.ireturn, 1) := by decide +kernel
theorem dX11_image_0 : decode cX11_image 0 = .ok (.aload_n 0, 1) := by decide +kernel
theorem dX11_image_1 : decode cX11_image 1 = .ok (.invokevirtual 247, 3) := by decide +kernel
theorem dX11_image_4 : decode cX11_image 4 = .ok (.aload_n 0, 1) := by decide +kernel
theorem dX11_image_5 : decode cX11_image 5 = .ok (.iconst 1, 1) := by decide +kernel
theorem dX11_image_6 : decode cX11_image 6 = .ok (.putfield 284, 3) := by decide +kernel
theorem dX11_image_9 : decode cX11_image 9 = .ok (.aload_n 0, 1) := by decide +kernel
theorem dX11_image_10 : decode cX11_image 10 = .ok (.aload_n 0, 1) := by decide +kernel
theorem dX11_image_11 : decode cX11_image 11 = .ok (.getfield 278, 3) := by decide +kernel
theorem dX11_image_14 : decode cX11_image 14 = .ok (.putfield 456, 3) := by decide +kernel
theorem dX11_image_17 : decode cX11_image 17 = .ok (.aload_n 0, 1) := by decide +kernel
theorem dX11_image_18 : decode cX11_image 18 = .ok (.aload_n 0, 1) := by decide +kernel
theorem dX11_image_19 : decode cX11_image 19 = .ok (.getfield 281, 3) := by decide +kernel
theorem dX11_image_22 : decode cX11_image 22 = .ok (.putfield 459, 3) := by decide +kernel
theorem dX11_image_25 : decode cX11_image 25 = .ok (.aload_n 0, 1) := by decide +kernel
theorem dX11_image_26 : decode cX11_image 26 = .ok (.getfield 106, 3) := by decide +kernel
theorem dX11_image_29 : decode cX11_image 29 = .ok (.aload_n 0, 1) := by decide +kernel
theorem dX11_image_30 : decode cX11_image 30 = .ok (.getfield 59, 3) := by decide +kernel
theorem dX11_image_33 : decode cX11_image 33 = .ok (.invokestatic 394, 3) := by decide +kernel
theorem dX11_image_36 : decode cX11_image 36 = .ok (.aload_n 0, 1) := by decide +kernel
theorem dX11_image_37 : decode cX11_image 37 = .ok (.getfield 109, 3) := by decide +kernel
theorem dX11_image_40 : decode cX11_image 40 = .ok (.aload_n 0, 1) := by decide +kernel
theorem dX11_image_41 : decode cX11_image 41 = .ok (.getfield 85, 3) := by decide +kernel
theorem dX11_image_44 : decode cX11_image 44 = .ok (.invokestatic 394, 3) := by decide +kernel
theorem dX11_image_47 : decode cX11_image 47 = .ok (.aload_n 0, 1) := by decide +kernel
theorem dX11_image_48 : decode cX11_image 48 = .ok (.getfield 112, 3) := by decide +kernel
theorem dX11_image_51 : decode cX11_image 51 = .ok (.aload_n 0, 1) := by decide +kernel
theorem dX11_image_52 : decode cX11_image 52 = .ok (.getfield 94, 3) := by decide +kernel
theorem dX11_image_55 : decode cX11_image 55 = .ok (.invokestatic 394, 3) := by decide +kernel
theorem dX11_image_58 : decode cX11_image 58 = .ok (.aload_n 0, 1) := by decide +kernel
theorem dX11_image_59 : decode cX11_image 59 = .ok (.getfield 115, 3) := by decide +kernel
theorem dX11_image_62 : decode cX11_image 62 = .ok (.aload_n 0, 1) := by decide +kernel
theorem dX11_image_63 : decode cX11_image 63 = .ok (.getfield 97, 3) := by decide +kernel
theorem dX11_image_66 : decode cX11_image 66 = .ok (.invokestatic 394, 3) := by decide +kernel
theorem dX11_image_69 : decode cX11_image 69 = .ok (.aload_n 0, 1) := by decide +kernel
theorem dX11_image_70 : decode cX11_image 70 = .ok (.getfield 118, 3) := by decide +kernel
theorem dX11_image_73 : decode cX11_image 73 = .ok (.aload_n 0, 1) := by decide +kernel
theorem dX11_image_74 : decode cX11_image 74 = .ok (.getfield 56, 3) := by decide +kernel
theorem dX11_image_77 : decode cX11_image 77 = .ok (.invokestatic 394, 3) := by decide +kernel
theorem dX11_image_80 : decode cX11_image 80 = .ok (.return_, 1) := by decide +kernel
theorem dX11_restore_0 : decode cX11_restore 0 = .ok (.aload_n 0, 1) := by decide +kernel
theorem dX11_restore_1 : decode cX11_restore 1 = .ok (.invokevirtual 247, 3) := by decide +kernel
theorem dX11_restore_4 : decode cX11_restore 4 = .ok (.aload_n 0, 1) := by decide +kernel
theorem dX11_restore_5 : decode cX11_restore 5 = .ok (.getfield 284, 3) := by decide +kernel
theorem dX11_restore_8 : decode cX11_restore 8 = .ok (.ifCond .ne 5, 3) := by decide +kernel
theorem dX11_restore_11 : decode cX11_restore 11 = .ok (.iconst 0, 1) := by decide +kernel
theorem dX11_restore_12 : decode cX11_restore 12 = .ok (.ireturn, 1) := by decide +kernel
theorem dX11_restore_13 : decode cX11_restore 13 = .ok (.aload_n 0, 1) := by decide +kernel
theorem dX11_restore_14 : decode cX11_restore 14 = .ok (.aload_n 0, 1) := by decide +kernel
theorem dX11_restore_15 : decode cX11_restore 15 = .ok (.getfield 456, 3) := by decide +kernel
theorem dX11_restore_18 : decode cX11_restore 18 = .ok (.putfield 278, 3) := by decide +kernel
theorem dX11_restore_21 : decode cX11_restore 21 = .ok (.aload_n 0, 1) := by decide +kernel
theorem dX11_restore_22 : decode cX11_restore 22 = .ok (.aload_n 0, 1) := by decide +kernel
theorem dX11_restore_23 : decode cX11_restore 23 = .ok (.getfield 459, 3) := by decide +kernel
theorem dX11_restore_26 : decode cX11_restore 26 = .ok (.putfield 281, 3) := by decide +kernel
theorem dX11_restore_29 : decode cX11_restore 29 = .ok (.aload_n 0, 1) := by decide +kernel
theorem dX11_restore_30 : decode cX11_restore 30 = .ok (.getfield 59, 3) := by decide +kernel
theorem dX11_restore_33 : decode cX11_restore 33 = .ok (.aload_n 0, 1) := by decide +kernel
theorem dX11_restore_34 : decode cX11_restore 34 = .ok (.getfield 106, 3) := by decide +kernel
theorem dX11_restore_37 : decode cX11_restore 37 = .ok (.invokestatic 394, 3) := by decide +kernel
theorem dX11_restore_40 : decode cX11_restore 40 = .ok (.aload_n 0, 1) := by decide +kernel
theorem dX11_restore_41 : decode cX11_restore 41 = .ok (.getfield 85, 3) := by decide +kernel
theorem dX11_restore_44 : decode cX11_restore 44 = .ok (.aload_n 0, 1) := by decide +kernel
theorem dX11_restore_45 : decode cX11_restore 45 = .ok (.getfield 109, 3) := by decide +kernel
theorem dX11_restore_48 : decode cX11_restore 48 = .ok (.invokestatic 394, 3) := by decide +kernel
theorem dX11_restore_51 : decode cX11_restore 51 = .ok (.aload_n 0, 1) := by decide +kernel
theorem dX11_restore_52 : decode cX11_restore 52 = .ok (.getfield 94, 3) := by decide +kernel
theorem dX11_restore_55 : decode cX11_restore 55 = .ok (.aload_n 0, 1) := by decide +kernel
theorem dX11_restore_56 : decode cX11_restore 56 = .ok (.getfield 112, 3) := by decide +kernel
theorem dX11_restore_59 : decode cX11_restore 59 = .ok (.invokestatic 394, 3) := by decide +kernel
theorem dX11_restore_62 : decode cX11_restore 62 = .ok (.aload_n 0, 1) := by decide +kernel
theorem dX11_restore_63 : decode cX11_restore 63 = .ok (.getfield 97, 3) := by decide +kernel
theorem dX11_restore_66 : decode cX11_restore 66 = .ok (.aload_n 0, 1) := by decide +kernel
theorem dX11_restore_67 : decode cX11_restore 67 = .ok (.getfield 115, 3) := by decide +kernel
theorem dX11_restore_70 : decode cX11_restore 70 = .ok (.invokestatic 394, 3) := by decide +kernel
theorem dX11_restore_73 : decode cX11_restore 73 = .ok (.aload_n 0, 1) := by decide +kernel
theorem dX11_restore_74 : decode cX11_restore 74 = .ok (.getfield 56, 3) := by decide +kernel
theorem dX11_restore_77 : decode cX11_restore 77 = .ok (.aload_n 0, 1) := by decide +kernel
theorem dX11_restore_78 : decode cX11_restore 78 = .ok (.getfield 118, 3) := by decide +kernel
theorem dX11_restore_81 : decode cX11_restore 81 = .ok (.invokestatic 394, 3) := by decide +kernel
theorem dX11_restore_84 : decode cX11_restore 84 = .ok (.iconst 1, 1) := by decide +kernel
theorem dX11_restore_85 : decode cX11_restore 85 = .ok (.ireturn, 1) := by decide +kernel
