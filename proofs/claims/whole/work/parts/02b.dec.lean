theorem dX8_init_0 : decode cX8_init 0 = .ok (.aload_n 0, 1) := by decide +kernel
theorem dX8_init_1 : decode cX8_init 1 = .ok (.invokespecial 1, 3) := by decide +kernel
theorem dX8_init_4 : decode cX8_init 4 = .ok (.aload_n 0, 1) := by decide +kernel
theorem dX8_init_5 : decode cX8_init 5 = .ok (.bipush 12, 2) := by decide +kernel
theorem dX8_init_7 : decode cX8_init 7 = .ok (.newarray .int, 2) := by decide +kernel
theorem dX8_init_9 : decode cX8_init 9 = .ok (.putfield 7, 3) := by decide +kernel
theorem dX8_init_12 : decode cX8_init 12 = .ok (.aload_n 0, 1) := by decide +kernel
theorem dX8_init_13 : decode cX8_init 13 = .ok (.bipush 12, 2) := by decide +kernel
theorem dX8_init_15 : decode cX8_init 15 = .ok (.newarray .int, 2) := by decide +kernel
theorem dX8_init_17 : decode cX8_init 17 = .ok (.putfield 13, 3) := by decide +kernel
theorem dX8_init_20 : decode cX8_init 20 = .ok (.aload_n 0, 1) := by decide +kernel
theorem dX8_init_21 : decode cX8_init 21 = .ok (.bipush 12, 2) := by decide +kernel
theorem dX8_init_23 : decode cX8_init 23 = .ok (.newarray .int, 2) := by decide +kernel
theorem dX8_init_25 : decode cX8_init 25 = .ok (.dup, 1) := by decide +kernel
theorem dX8_init_26 : decode cX8_init 26 = .ok (.iconst 0, 1) := by decide +kernel
theorem dX8_init_27 : decode cX8_init 27 = .ok (.iconst (-1), 1) := by decide +kernel
theorem dX8_init_28 : decode cX8_init 28 = .ok (.iastore, 1) := by decide +kernel
theorem dX8_init_29 : decode cX8_init 29 = .ok (.dup, 1) := by decide +kernel
theorem dX8_init_30 : decode cX8_init 30 = .ok (.iconst 1, 1) := by decide +kernel
theorem dX8_init_31 : decode cX8_init 31 = .ok (.iconst (-1), 1) := by decide +kernel
theorem dX8_init_32 : decode cX8_init 32 = .ok (.iastore, 1) := by decide +kernel
theorem dX8_init_33 : decode cX8_init 33 = .ok (.dup, 1) := by decide +kernel
theorem dX8_init_34 : decode cX8_init 34 = .ok (.iconst 2, 1) := by decide +kernel
theorem dX8_init_35 : decode cX8_init 35 = .ok (.iconst (-1), 1) := by decide +kernel
theorem dX8_init_36 : decode cX8_init 36 = .ok (.iastore, 1) := by decide +kernel
theorem dX8_init_37 : decode cX8_init 37 = .ok (.dup, 1) := by decide +kernel
theorem dX8_init_38 : decode cX8_init 38 = .ok (.iconst 3, 1) := by decide +kernel
theorem dX8_init_39 : decode cX8_init 39 = .ok (.iconst (-1), 1) := by decide +kernel
theorem dX8_init_40 : decode cX8_init 40 = .ok (.iastore, 1) := by decide +kernel
theorem dX8_init_41 : decode cX8_init 41 = .ok (.dup, 1) := by decide +kernel
theorem dX8_init_42 : decode cX8_init 42 = .ok (.iconst 4, 1) := by decide +kernel
theorem dX8_init_43 : decode cX8_init 43 = .ok (.iconst (-1), 1) := by decide +kernel
theorem dX8_init_44 : decode cX8_init 44 = .ok (.iastore, 1) := by decide +kernel
theorem dX8_init_45 : decode cX8_init 45 = .ok (.dup, 1) := by decide +kernel
theorem dX8_init_46 : decode cX8_init 46 = .ok (.iconst 5, 1) := by decide +kernel
theorem dX8_init_47 : decode cX8_init 47 = .ok (.iconst (-1), 1) := by decide +kernel
theorem dX8_init_48 : decode cX8_init 48 = .ok (.iastore, 1) := by decide +kernel
theorem dX8_init_49 : decode cX8_init 49 = .ok (.dup, 1) := by decide +kernel
theorem dX8_init_50 : decode cX8_init 50 = .ok (.bipush 6, 2) := by decide +kernel
theorem dX8_init_52 : decode cX8_init 52 = .ok (.iconst (-1), 1) := by decide +kernel
theorem dX8_init_53 : decode cX8_init 53 = .ok (.iastore, 1) := by decide +kernel
theorem dX8_init_54 : decode cX8_init 54 = .ok (.dup, 1) := by decide +kernel
theorem dX8_init_55 : decode cX8_init 55 = .ok (.bipush 7, 2) := by decide +kernel
theorem dX8_init_57 : decode cX8_init 57 = .ok (.iconst (-1), 1) := by decide +kernel
theorem dX8_init_58 : decode cX8_init 58 = .ok (.iastore, 1) := by decide +kernel
theorem dX8_init_59 : decode cX8_init 59 = .ok (.dup, 1) := by decide +kernel
theorem dX8_init_60 : decode cX8_init 60 = .ok (.bipush 8, 2) := by decide +kernel
theorem dX8_init_62 : decode cX8_init 62 = .ok (.iconst (-1), 1) := by decide +kernel
theorem dX8_init_63 : decode cX8_init 63 = .ok (.iastore, 1) := by decide +kernel
theorem dX8_init_64 : decode cX8_init 64 = .ok (.dup, 1) := by decide +kernel
theorem dX8_init_65 : decode cX8_init 65 = .ok (.bipush 9, 2) := by decide +kernel
theorem dX8_init_67 : decode cX8_init 67 = .ok (.iconst (-1), 1) := by decide +kernel
theorem dX8_init_68 : decode cX8_init 68 = .ok (.iastore, 1) := by decide +kernel
theorem dX8_init_69 : decode cX8_init 69 = .ok (.dup, 1) := by decide +kernel
theorem dX8_init_70 : decode cX8_init 70 = .ok (.bipush 10, 2) := by decide +kernel
theorem dX8_init_72 : decode cX8_init 72 = .ok (.iconst (-1), 1) := by decide +kernel
theorem dX8_init_73 : decode cX8_init 73 = .ok (.iastore, 1) := by decide +kernel
theorem dX8_init_74 : decode cX8_init 74 = .ok (.dup, 1) := by decide +kernel
theorem dX8_init_75 : decode cX8_init 75 = .ok (.bipush 11, 2) := by decide +kernel
theorem dX8_init_77 : decode cX8_init 77 = .ok (.iconst (-1), 1) := by decide +kernel
theorem dX8_init_78 : decode cX8_init 78 = .ok (.iastore, 1) := by decide +kernel
theorem dX8_init_79 : decode cX8_init 79 = .ok (.putfield 16, 3) := by decide +kernel
theorem dX8_init_82 : decode cX8_init 82 = .ok (.aload_n 0, 1) := by decide +kernel
theorem dX8_init_83 : decode cX8_init 83 = .ok (.bipush 16, 2) := by decide +kernel
theorem dX8_init_85 : decode cX8_init 85 = .ok (.newarray .int, 2) := by decide +kernel
theorem dX8_init_87 : decode cX8_init 87 = .ok (.putfield 19, 3) := by decide +kernel
theorem dX8_init_90 : decode cX8_init 90 = .ok (.aload_n 0, 1) := by decide +kernel
theorem dX8_init_91 : decode cX8_init 91 = .ok (.bipush 16, 2) := by decide +kernel
theorem dX8_init_93 : decode cX8_init 93 = .ok (.newarray .int, 2) := by decide +kernel
theorem dX8_init_95 : decode cX8_init 95 = .ok (.putfield 22, 3) := by decide +kernel
theorem dX8_init_98 : decode cX8_init 98 = .ok (.aload_n 0, 1) := by decide +kernel
theorem dX8_init_99 : decode cX8_init 99 = .ok (.bipush 16, 2) := by decide +kernel
theorem dX8_init_101 : decode cX8_init 101 = .ok (.newarray .int, 2) := by decide +kernel
theorem dX8_init_103 : decode cX8_init 103 = .ok (.putfield 25, 3) := by decide +kernel
theorem dX8_init_106 : decode cX8_init 106 = .ok (.aload_n 0, 1) := by decide +kernel
theorem dX8_init_107 : decode cX8_init 107 = .ok (.bipush 12, 2) := by decide +kernel
theorem dX8_init_109 : decode cX8_init 109 = .ok (.newarray .int, 2) := by decide +kernel
theorem dX8_init_111 : decode cX8_init 111 = .ok (.dup, 1) := by decide +kernel
theorem dX8_init_112 : decode cX8_init 112 = .ok (.iconst 0, 1) := by decide +kernel
theorem dX8_init_113 : decode cX8_init 113 = .ok (.iconst 1, 1) := by decide +kernel
theorem dX8_init_114 : decode cX8_init 114 = .ok (.iastore, 1) := by decide +kernel
theorem dX8_init_115 : decode cX8_init 115 = .ok (.dup, 1) := by decide +kernel
theorem dX8_init_116 : decode cX8_init 116 = .ok (.iconst 1, 1) := by decide +kernel
theorem dX8_init_117 : decode cX8_init 117 = .ok (.iconst 1, 1) := by decide +kernel
theorem dX8_init_118 : decode cX8_init 118 = .ok (.iastore, 1) := by decide +kernel
theorem dX8_init_119 : decode cX8_init 119 = .ok (.dup, 1) := by decide +kernel
theorem dX8_init_120 : decode cX8_init 120 = .ok (.iconst 2, 1) := by decide +kernel
theorem dX8_init_121 : decode cX8_init 121 = .ok (.iconst 1, 1) := by decide +kernel
theorem dX8_init_122 : decode cX8_init 122 = .ok (.iastore, 1) := by decide +kernel
theorem dX8_init_123 : decode cX8_init 123 = .ok (.dup, 1) := by decide +kernel
theorem dX8_init_124 : decode cX8_init 124 = .ok (.iconst 3, 1) := by decide +kernel
theorem dX8_init_125 : decode cX8_init 125 = .ok (.iconst 1, 1) := by decide +kernel
theorem dX8_init_126 : decode cX8_init 126 = .ok (.iastore, 1) := by decide +kernel
theorem dX8_init_127 : decode cX8_init 127 = .ok (.dup, 1) := by decide +kernel
theorem dX8_init_128 : decode cX8_init 128 = .ok (.iconst 4, 1) := by decide +kernel
theorem dX8_init_129 : decode cX8_init 129 = .ok (.iconst 1, 1) := by decide +kernel
theorem dX8_init_130 : decode cX8_init 130 = .ok (.iastore, 1) := by decide +kernel
theorem dX8_init_131 : decode cX8_init 131 = .ok (.dup, 1) := by decide +kernel
theorem dX8_init_132 : decode cX8_init 132 = .ok (.iconst 5, 1) := by decide +kernel
theorem dX8_init_133 : decode cX8_init 133 = .ok (.iconst 1, 1) := by decide +kernel
theorem dX8_init_134 : decode cX8_init 134 = .ok (.iastore, 1) := by decide +kernel
theorem dX8_init_135 : decode cX8_init 135 = .ok (.dup, 1) := by decide +kernel
theorem dX8_init_136 : decode cX8_init 136 = .ok (.bipush 6, 2) := by decide +kernel
theorem dX8_init_138 : decode cX8_init 138 = .ok (.iconst 1, 1) := by decide +kernel
theorem dX8_init_139 : decode cX8_init 139 = .ok (.iastore, 1) := by decide +kernel
theorem dX8_init_140 : decode cX8_init 140 = .ok (.dup, 1) := by decide +kernel
theorem dX8_init_141 : decode cX8_init 141 = .ok (.bipush 7, 2) := by decide +kernel
theorem dX8_init_143 : decode cX8_init 143 = .ok (.iconst 1, 1) := by decide +kernel
theorem dX8_init_144 : decode cX8_init 144 = .ok (.iastore, 1) := by decide +kernel
theorem dX8_init_145 : decode cX8_init 145 = .ok (.dup, 1) := by decide +kernel
theorem dX8_init_146 : decode cX8_init 146 = .ok (.bipush 8, 2) := by decide +kernel
theorem dX8_init_148 : decode cX8_init 148 = .ok (.iconst 1, 1) := by decide +kernel
theorem dX8_init_149 : decode cX8_init 149 = .ok (.iastore, 1) := by decide +kernel
theorem dX8_init_150 : decode cX8_init 150 = .ok (.dup, 1) := by decide +kernel
theorem dX8_init_151 : decode cX8_init 151 = .ok (.bipush 9, 2) := by decide +kernel
theorem dX8_init_153 : decode cX8_init 153 = .ok (.iconst 1, 1) := by decide +kernel
theorem dX8_init_154 : decode cX8_init 154 = .ok (.iastore, 1) := by decide +kernel
theorem dX8_init_155 : decode cX8_init 155 = .ok (.dup, 1) := by decide +kernel
theorem dX8_init_156 : decode cX8_init 156 = .ok (.bipush 10, 2) := by decide +kernel
theorem dX8_init_158 : decode cX8_init 158 = .ok (.iconst 1, 1) := by decide +kernel
theorem dX8_init_159 : decode cX8_init 159 = .ok (.iastore, 1) := by decide +kernel
theorem dX8_init_160 : decode cX8_init 160 = .ok (.dup, 1) := by decide +kernel
theorem dX8_init_161 : decode cX8_init 161 = .ok (.bipush 11, 2) := by decide +kernel
theorem dX8_init_163 : decode cX8_init 163 = .ok (.iconst 1, 1) := by decide +kernel
theorem dX8_init_164 : decode cX8_init 164 = .ok (.iastore, 1) := by decide +kernel
theorem dX8_init_165 : decode cX8_init 165 = .ok (.putfield 28, 3) := by decide +kernel
theorem dX8_init_168 : decode cX8_init 168 = .ok (.aload_n 0, 1) := by decide +kernel
theorem dX8_init_169 : decode cX8_init 169 = .ok (.bipush 12, 2) := by decide +kernel
theorem dX8_init_171 : decode cX8_init 171 = .ok (.newarray .int, 2) := by decide +kernel
theorem dX8_init_173 : decode cX8_init 173 = .ok (.putfield 31, 3) := by decide +kernel
theorem dX8_init_176 : decode cX8_init 176 = .ok (.aload_n 0, 1) := by decide +kernel
theorem dX8_init_177 : decode cX8_init 177 = .ok (.bipush 40, 2) := by decide +kernel
theorem dX8_init_179 : decode cX8_init 179 = .ok (.newarray .int, 2) := by decide +kernel
theorem dX8_init_181 : decode cX8_init 181 = .ok (.putfield 34, 3) := by decide +kernel
theorem dX8_init_184 : decode cX8_init 184 = .ok (.aload_n 0, 1) := by decide +kernel
theorem dX8_init_185 : decode cX8_init 185 = .ok (.bipush 40, 2) := by decide +kernel
theorem dX8_init_187 : decode cX8_init 187 = .ok (.newarray .int, 2) := by decide +kernel
theorem dX8_init_189 : decode cX8_init 189 = .ok (.putfield 37, 3) := by decide +kernel
theorem dX8_init_192 : decode cX8_init 192 = .ok (.aload_n 0, 1) := by decide +kernel
theorem dX8_init_193 : decode cX8_init 193 = .ok (.bipush 40, 2) := by decide +kernel
theorem dX8_init_195 : decode cX8_init 195 = .ok (.newarray .int, 2) := by decide +kernel
theorem dX8_init_197 : decode cX8_init 197 = .ok (.putfield 40, 3) := by decide +kernel
theorem dX8_init_200 : decode cX8_init 200 = .ok (.aload_n 0, 1) := by decide +kernel
theorem dX8_init_201 : decode cX8_init 201 = .ok (.bipush 40, 2) := by decide +kernel
theorem dX8_init_203 : decode cX8_init 203 = .ok (.newarray .int, 2) := by decide +kernel
theorem dX8_init_205 : decode cX8_init 205 = .ok (.putfield 43, 3) := by decide +kernel
theorem dX8_init_208 : decode cX8_init 208 = .ok (.aload_n 0, 1) := by decide +kernel
theorem dX8_init_209 : decode cX8_init 209 = .ok (.bipush 120, 2) := by decide +kernel
theorem dX8_init_211 : decode cX8_init 211 = .ok (.newarray .byte, 2) := by decide +kernel
theorem dX8_init_213 : decode cX8_init 213 = .ok (.putfield 46, 3) := by decide +kernel
theorem dX8_init_216 : decode cX8_init 216 = .ok (.aload_n 0, 1) := by decide +kernel
theorem dX8_init_217 : decode cX8_init 217 = .ok (.sipush 260, 3) := by decide +kernel
theorem dX8_init_220 : decode cX8_init 220 = .ok (.newarray .byte, 2) := by decide +kernel
theorem dX8_init_222 : decode cX8_init 222 = .ok (.putfield 50, 3) := by decide +kernel
theorem dX8_init_225 : decode cX8_init 225 = .ok (.aload_n 0, 1) := by decide +kernel
theorem dX8_init_226 : decode cX8_init 226 = .ok (.sipush 260, 3) := by decide +kernel
theorem dX8_init_229 : decode cX8_init 229 = .ok (.newarray .int, 2) := by decide +kernel
theorem dX8_init_231 : decode cX8_init 231 = .ok (.putfield 53, 3) := by decide +kernel
theorem dX8_init_234 : decode cX8_init 234 = .ok (.aload_n 0, 1) := by decide +kernel
theorem dX8_init_235 : decode cX8_init 235 = .ok (.iconst 2, 1) := by decide +kernel
theorem dX8_init_236 : decode cX8_init 236 = .ok (.newarray .int, 2) := by decide +kernel
theorem dX8_init_238 : decode cX8_init 238 = .ok (.putfield 56, 3) := by decide +kernel
theorem dX8_init_241 : decode cX8_init 241 = .ok (.aload_n 0, 1) := by decide +kernel
theorem dX8_init_242 : decode cX8_init 242 = .ok (.bipush 122, 2) := by decide +kernel
theorem dX8_init_244 : decode cX8_init 244 = .ok (.newarray .short, 2) := by decide +kernel
theorem dX8_init_246 : decode cX8_init 246 = .ok (.putfield 59, 3) := by decide +kernel
theorem dX8_init_249 : decode cX8_init 249 = .ok (.aload_n 0, 1) := by decide +kernel
theorem dX8_init_250 : decode cX8_init 250 = .ok (.bipush 122, 2) := by decide +kernel
theorem dX8_init_252 : decode cX8_init 252 = .ok (.newarray .short, 2) := by decide +kernel
theorem dX8_init_254 : decode cX8_init 254 = .ok (.putfield 63, 3) := by decide +kernel
theorem dX8_init_257 : decode cX8_init 257 = .ok (.aload_n 0, 1) := by decide +kernel
theorem dX8_init_258 : decode cX8_init 258 = .ok (.bipush 6, 2) := by decide +kernel
theorem dX8_init_260 : decode cX8_init 260 = .ok (.newarray .int, 2) := by decide +kernel
theorem dX8_init_262 : decode cX8_init 262 = .ok (.putfield 66, 3) := by decide +kernel
theorem dX8_init_265 : decode cX8_init 265 = .ok (.aload_n 0, 1) := by decide +kernel
theorem dX8_init_266 : decode cX8_init 266 = .ok (.sipush 130, 3) := by decide +kernel
theorem dX8_init_269 : decode cX8_init 269 = .ok (.newarray .int, 2) := by decide +kernel
theorem dX8_init_271 : decode cX8_init 271 = .ok (.putfield 69, 3) := by decide +kernel
theorem dX8_init_274 : decode cX8_init 274 = .ok (.aload_n 0, 1) := by decide +kernel
theorem dX8_init_275 : decode cX8_init 275 = .ok (.bipush 12, 2) := by decide +kernel
theorem dX8_init_277 : decode cX8_init 277 = .ok (.newarray .int, 2) := by decide +kernel
theorem dX8_init_279 : decode cX8_init 279 = .ok (.putfield 72, 3) := by decide +kernel
theorem dX8_init_282 : decode cX8_init 282 = .ok (.aload_n 0, 1) := by decide +kernel
theorem dX8_init_283 : decode cX8_init 283 = .ok (.bipush 16, 2) := by decide +kernel
theorem dX8_init_285 : decode cX8_init 285 = .ok (.newarray .boolean, 2) := by decide +kernel
theorem dX8_init_287 : decode cX8_init 287 = .ok (.putfield 75, 3) := by decide +kernel
theorem dX8_init_290 : decode cX8_init 290 = .ok (.aload_n 0, 1) := by decide +kernel
theorem dX8_init_291 : decode cX8_init 291 = .ok (.bipush 12, 2) := by decide +kernel
theorem dX8_init_293 : decode cX8_init 293 = .ok (.newarray .int, 2) := by decide +kernel
theorem dX8_init_295 : decode cX8_init 295 = .ok (.putfield 79, 3) := by decide +kernel
theorem dX8_init_298 : decode cX8_init 298 = .ok (.aload_n 0, 1) := by decide +kernel
theorem dX8_init_299 : decode cX8_init 299 = .ok (.bipush 12, 2) := by decide +kernel
theorem dX8_init_301 : decode cX8_init 301 = .ok (.newarray .int, 2) := by decide +kernel
theorem dX8_init_303 : decode cX8_init 303 = .ok (.putfield 82, 3) := by decide +kernel
theorem dX8_init_306 : decode cX8_init 306 = .ok (.aload_n 0, 1) := by decide +kernel
theorem dX8_init_307 : decode cX8_init 307 = .ok (.bipush 12, 2) := by decide +kernel
theorem dX8_init_309 : decode cX8_init 309 = .ok (.newarray .int, 2) := by decide +kernel
theorem dX8_init_311 : decode cX8_init 311 = .ok (.putfield 85, 3) := by decide +kernel
theorem dX8_init_314 : decode cX8_init 314 = .ok (.aload_n 0, 1) := by decide +kernel
theorem dX8_init_315 : decode cX8_init 315 = .ok (.bipush 50, 2) := by decide +kernel
theorem dX8_init_317 : decode cX8_init 317 = .ok (.newarray .int, 2) := by decide +kernel
theorem dX8_init_319 : decode cX8_init 319 = .ok (.putfield 88, 3) := by decide +kernel
theorem dX8_init_322 : decode cX8_init 322 = .ok (.aload_n 0, 1) := by decide +kernel
theorem dX8_init_323 : decode cX8_init 323 = .ok (.bipush 24, 2) := by decide +kernel
theorem dX8_init_325 : decode cX8_init 325 = .ok (.newarray .int, 2) := by decide +kernel
theorem dX8_init_327 : decode cX8_init 327 = .ok (.putfield 91, 3) := by decide +kernel
theorem dX8_init_330 : decode cX8_init 330 = .ok (.aload_n 0, 1) := by decide +kernel
theorem dX8_init_331 : decode cX8_init 331 = .ok (.bipush 6, 2) := by decide +kernel
theorem dX8_init_333 : decode cX8_init 333 = .ok (.newarray .int, 2) := by decide +kernel
theorem dX8_init_335 : decode cX8_init 335 = .ok (.dup, 1) := by decide +kernel
theorem dX8_init_336 : decode cX8_init 336 = .ok (.iconst 0, 1) := by decide +kernel
theorem dX8_init_337 : decode cX8_init 337 = .ok (.iconst (-1), 1) := by decide +kernel
theorem dX8_init_338 : decode cX8_init 338 = .ok (.iastore, 1) := by decide +kernel
theorem dX8_init_339 : decode cX8_init 339 = .ok (.dup, 1) := by decide +kernel
theorem dX8_init_340 : decode cX8_init 340 = .ok (.iconst 1, 1) := by decide +kernel
theorem dX8_init_341 : decode cX8_init 341 = .ok (.iconst (-1), 1) := by decide +kernel
theorem dX8_init_342 : decode cX8_init 342 = .ok (.iastore, 1) := by decide +kernel
theorem dX8_init_343 : decode cX8_init 343 = .ok (.dup, 1) := by decide +kernel
theorem dX8_init_344 : decode cX8_init 344 = .ok (.iconst 2, 1) := by decide +kernel
theorem dX8_init_345 : decode cX8_init 345 = .ok (.iconst (-1), 1) := by decide +kernel
theorem dX8_init_346 : decode cX8_init 346 = .ok (.iastore, 1) := by decide +kernel
theorem dX8_init_347 : decode cX8_init 347 = .ok (.dup, 1) := by decide +kernel
theorem dX8_init_348 : decode cX8_init 348 = .ok (.iconst 3, 1) := by decide +kernel
theorem dX8_init_349 : decode cX8_init 349 = .ok (.iconst (-1), 1) := by decide +kernel
theorem dX8_init_350 : decode cX8_init 350 = .ok (.iastore, 1) := by decide +kernel
theorem dX8_init_351 : decode cX8_init 351 = .ok (.dup, 1) := by decide +kernel
theorem dX8_init_352 : decode cX8_init 352 = .ok (.iconst 4, 1) := by decide +kernel
theorem dX8_init_353 : decode cX8_init 353 = .ok (.iconst (-1), 1) := by decide +kernel
theorem dX8_init_354 : decode cX8_init 354 = .ok (.iastore, 1) := by decide +kernel
theorem dX8_init_355 : decode cX8_init 355 = .ok (.dup, 1) := by decide +kernel
theorem dX8_init_356 : decode cX8_init 356 = .ok (.iconst 5, 1) := by decide +kernel
theorem dX8_init_357 : decode cX8_init 357 = .ok (.iconst (-1), 1) := by decide +kernel
theorem dX8_init_358 : decode cX8_init 358 = .ok (.iastore, 1) := by decide +kernel
theorem dX8_init_359 : decode cX8_init 359 = .ok (.putfield 94, 3) := by decide +kernel
theorem dX8_init_362 : decode cX8_init 362 = .ok (.aload_n 0, 1) := by decide +kernel
theorem dX8_init_363 : decode cX8_init 363 = .ok (.bipush 6, 2) := by decide +kernel
theorem dX8_init_365 : decode cX8_init 365 = .ok (.newarray .int, 2) := by decide +kernel
theorem dX8_init_367 : decode cX8_init 367 = .ok (.putfield 97, 3) := by decide +kernel
theorem dX8_init_370 : decode cX8_init 370 = .ok (.aload_n 0, 1) := by decide +kernel
theorem dX8_init_371 : decode cX8_init 371 = .ok (.sipush 360, 3) := by decide +kernel
theorem dX8_init_374 : decode cX8_init 374 = .ok (.newarray .long, 2) := by decide +kernel
theorem dX8_init_376 : decode cX8_init 376 = .ok (.putfield 100, 3) := by decide +kernel
theorem dX8_init_379 : decode cX8_init 379 = .ok (.aload_n 0, 1) := by decide +kernel
theorem dX8_init_380 : decode cX8_init 380 = .ok (.bipush 60, 2) := by decide +kernel
theorem dX8_init_382 : decode cX8_init 382 = .ok (.newarray .long, 2) := by decide +kernel
theorem dX8_init_384 : decode cX8_init 384 = .ok (.putfield 104, 3) := by decide +kernel
theorem dX8_init_387 : decode cX8_init 387 = .ok (.return_, 1) := by decide +kernel
theorem dX8_in_0 : decode cX8_in 0 = .ok (.iload_n 0, 1) := by decide +kernel
theorem dX8_in_1 : decode cX8_in 1 = .ok (.iload_n 1, 1) := by decide +kernel
theorem dX8_in_2 : decode cX8_in 2 = .ok (.if_icmp .lt 12, 3) := by decide +kernel
theorem dX8_in_5 : decode cX8_in 5 = .ok (.iload_n 0, 1) := by decide +kernel
theorem dX8_in_6 : decode cX8_in 6 = .ok (.iload_n 2, 1) := by decide +kernel
theorem dX8_in_7 : decode cX8_in 7 = .ok (.if_icmp .gt 7, 3) := by decide +kernel
theorem dX8_in_10 : decode cX8_in 10 = .ok (.iconst 1, 1) := by decide +kernel
theorem dX8_in_11 : decode cX8_in 11 = .ok (.goto 4, 3) := by decide +kernel
theorem dX8_in_14 : decode cX8_in 14 = .ok (.iconst 0, 1) := by decide +kernel
theorem dX8_in_15 : decode cX8_in 15 = .ok (.ireturn, 1) := by decide +kernel
theorem dX8_bitsOf_0 : decode cX8_bitsOf 0 = .ok (.iconst 0, 1) := by decide +kernel
theorem dX8_bitsOf_1 : decode cX8_bitsOf 1 = .ok (.istore_n 1, 1) := by decide +kernel
theorem dX8_bitsOf_2 : decode cX8_bitsOf 2 = .ok (.iload_n 0, 1) := by decide +kernel
theorem dX8_bitsOf_3 : decode cX8_bitsOf 3 = .ok (.istore_n 2, 1) := by decide +kernel
theorem dX8_bitsOf_4 : decode cX8_bitsOf 4 = .ok (.iload_n 2, 1) := by decide +kernel
theorem dX8_bitsOf_5 : decode cX8_bitsOf 5 = .ok (.ifCond .eq 15, 3) := by decide +kernel
theorem dX8_bitsOf_8 : decode cX8_bitsOf 8 = .ok (.iinc 1 1, 3) := by decide +kernel
theorem dX8_bitsOf_11 : decode cX8_bitsOf 11 = .ok (.iload_n 2, 1) := by decide +kernel
theorem dX8_bitsOf_12 : decode cX8_bitsOf 12 = .ok (.iload_n 2, 1) := by decide +kernel
theorem dX8_bitsOf_13 : decode cX8_bitsOf 13 = .ok (.iconst 1, 1) := by decide +kernel
theorem dX8_bitsOf_14 : decode cX8_bitsOf 14 = .ok (.isub, 1) := by decide +kernel
theorem dX8_bitsOf_15 : decode cX8_bitsOf 15 = .ok (.iand, 1) := by decide +kernel
theorem dX8_bitsOf_16 : decode cX8_bitsOf 16 = .ok (.istore_n 2, 1) := by decide +kernel
theorem dX8_bitsOf_17 : decode cX8_bitsOf 17 = .ok (.goto (-13), 3) := by decide +kernel
theorem dX8_bitsOf_20 : decode cX8_bitsOf 20 = .ok (.iload_n 1, 1) := by decide +kernel
theorem dX8_bitsOf_21 : decode cX8_bitsOf 21 = .ok (.ireturn, 1) := by decide +kernel
theorem dX8_isPerson_0 : decode cX8_isPerson 0 = .ok (.iload_n 1, 1) := by decide +kernel
theorem dX8_isPerson_1 : decode cX8_isPerson 1 = .ok (.iconst 0, 1) := by decide +kernel
theorem dX8_isPerson_2 : decode cX8_isPerson 2 = .ok (.aload_n 0, 1) := by decide +kernel
theorem dX8_isPerson_3 : decode cX8_isPerson 3 = .ok (.getfield 111, 3) := by decide +kernel
theorem dX8_isPerson_6 : decode cX8_isPerson 6 = .ok (.iconst 1, 1) := by decide +kernel
theorem dX8_isPerson_7 : decode cX8_isPerson 7 = .ok (.isub, 1) := by decide +kernel
theorem dX8_isPerson_8 : decode cX8_isPerson 8 = .ok (.invokestatic 114, 3) := by decide +kernel
theorem dX8_isPerson_11 : decode cX8_isPerson 11 = .ok (.ireturn, 1) := by decide +kernel
theorem dX8_isName_0 : decode cX8_isName 0 = .ok (.iload_n 0, 1) := by decide +kernel
theorem dX8_isName_1 : decode cX8_isName 1 = .ok (.iconst 0, 1) := by decide +kernel
theorem dX8_isName_2 : decode cX8_isName 2 = .ok (.bipush 11, 2) := by decide +kernel
theorem dX8_isName_4 : decode cX8_isName 4 = .ok (.invokestatic 114, 3) := by decide +kernel
theorem dX8_isName_7 : decode cX8_isName 7 = .ok (.ireturn, 1) := by decide +kernel
theorem dX8_isYear_0 : decode cX8_isYear 0 = .ok (.iload_n 0, 1) := by decide +kernel
theorem dX8_isYear_1 : decode cX8_isYear 1 = .ok (.iconst 0, 1) := by decide +kernel
theorem dX8_isYear_2 : decode cX8_isYear 2 = .ok (.bipush 99, 2) := by decide +kernel
theorem dX8_isYear_4 : decode cX8_isYear 4 = .ok (.invokestatic 114, 3) := by decide +kernel
theorem dX8_isYear_7 : decode cX8_isYear 7 = .ok (.ireturn, 1) := by decide +kernel
theorem dX8_lives_0 : decode cX8_lives 0 = .ok (.aload_n 0, 1) := by decide +kernel
theorem dX8_lives_1 : decode cX8_lives 1 = .ok (.getfield 7, 3) := by decide +kernel
theorem dX8_lives_4 : decode cX8_lives 4 = .ok (.iload_n 1, 1) := by decide +kernel
theorem dX8_lives_5 : decode cX8_lives 5 = .ok (.iaload, 1) := by decide +kernel
theorem dX8_lives_6 : decode cX8_lives 6 = .ok (.iload_n 2, 1) := by decide +kernel
theorem dX8_lives_7 : decode cX8_lives 7 = .ok (.if_icmp .gt 17, 3) := by decide +kernel
theorem dX8_lives_10 : decode cX8_lives 10 = .ok (.iload_n 2, 1) := by decide +kernel
theorem dX8_lives_11 : decode cX8_lives 11 = .ok (.aload_n 0, 1) := by decide +kernel
theorem dX8_lives_12 : decode cX8_lives 12 = .ok (.getfield 13, 3) := by decide +kernel
theorem dX8_lives_15 : decode cX8_lives 15 = .ok (.iload_n 1, 1) := by decide +kernel
theorem dX8_lives_16 : decode cX8_lives 16 = .ok (.iaload, 1) := by decide +kernel
theorem dX8_lives_17 : decode cX8_lives 17 = .ok (.if_icmp .ge 7, 3) := by decide +kernel
theorem dX8_lives_20 : decode cX8_lives 20 = .ok (.iconst 1, 1) := by decide +kernel
theorem dX8_lives_21 : decode cX8_lives 21 = .ok (.goto 4, 3) := by decide +kernel
theorem dX8_lives_24 : decode cX8_lives 24 = .ok (.iconst 0, 1) := by decide +kernel
theorem dX8_lives_25 : decode cX8_lives 25 = .ok (.ireturn, 1) := by decide +kernel
theorem dX8_isLife_0 : decode cX8_isLife 0 = .ok (.iload_n 0, 1) := by decide +kernel
theorem dX8_isLife_1 : decode cX8_isLife 1 = .ok (.invokestatic 118, 3) := by decide +kernel
theorem dX8_isLife_4 : decode cX8_isLife 4 = .ok (.ifCond .eq 19, 3) := by decide +kernel
theorem dX8_isLife_7 : decode cX8_isLife 7 = .ok (.iload_n 1, 1) := by decide +kernel
theorem dX8_isLife_8 : decode cX8_isLife 8 = .ok (.iload_n 0, 1) := by decide +kernel
theorem dX8_isLife_9 : decode cX8_isLife 9 = .ok (.iconst 1, 1) := by decide +kernel
theorem dX8_isLife_10 : decode cX8_isLife 10 = .ok (.iadd, 1) := by decide +kernel
theorem dX8_isLife_11 : decode cX8_isLife 11 = .ok (.bipush 100, 2) := by decide +kernel
theorem dX8_isLife_13 : decode cX8_isLife 13 = .ok (.invokestatic 114, 3) := by decide +kernel
theorem dX8_isLife_16 : decode cX8_isLife 16 = .ok (.ifCond .eq 7, 3) := by decide +kernel
theorem dX8_isLife_19 : decode cX8_isLife 19 = .ok (.iconst 1, 1) := by decide +kernel
theorem dX8_isLife_20 : decode cX8_isLife 20 = .ok (.goto 4, 3) := by decide +kernel
theorem dX8_isLife_23 : decode cX8_isLife 23 = .ok (.iconst 0, 1) := by decide +kernel
theorem dX8_isLife_24 : decode cX8_isLife 24 = .ok (.ireturn, 1) := by decide +kernel
theorem dX8_addPerson_0 : decode cX8_addPerson 0 = .ok (.aload_n 0, 1) := by decide +kernel
theorem dX8_addPerson_1 : decode cX8_addPerson 1 = .ok (.getfield 7, 3) := by decide +kernel
theorem dX8_addPerson_4 : decode cX8_addPerson 4 = .ok (.aload_n 0, 1) := by decide +kernel
theorem dX8_addPerson_5 : decode cX8_addPerson 5 = .ok (.getfield 111, 3) := by decide +kernel
theorem dX8_addPerson_8 : decode cX8_addPerson 8 = .ok (.iload_n 1, 1) := by decide +kernel
theorem dX8_addPerson_9 : decode cX8_addPerson 9 = .ok (.iastore, 1) := by decide +kernel
theorem dX8_addPerson_10 : decode cX8_addPerson 10 = .ok (.aload_n 0, 1) := by decide +kernel
theorem dX8_addPerson_11 : decode cX8_addPerson 11 = .ok (.getfield 13, 3) := by decide +kernel
theorem dX8_addPerson_14 : decode cX8_addPerson 14 = .ok (.aload_n 0, 1) := by decide +kernel
theorem dX8_addPerson_15 : decode cX8_addPerson 15 = .ok (.getfield 111, 3) := by decide +kernel
theorem dX8_addPerson_18 : decode cX8_addPerson 18 = .ok (.iload_n 2, 1) := by decide +kernel
theorem dX8_addPerson_19 : decode cX8_addPerson 19 = .ok (.iastore, 1) := by decide +kernel
theorem dX8_addPerson_20 : decode cX8_addPerson 20 = .ok (.aload_n 0, 1) := by decide +kernel
theorem dX8_addPerson_21 : decode cX8_addPerson 21 = .ok (.getfield 16, 3) := by decide +kernel
theorem dX8_addPerson_24 : decode cX8_addPerson 24 = .ok (.aload_n 0, 1) := by decide +kernel
theorem dX8_addPerson_25 : decode cX8_addPerson 25 = .ok (.getfield 111, 3) := by decide +kernel
theorem dX8_addPerson_28 : decode cX8_addPerson 28 = .ok (.iload_n 3, 1) := by decide +kernel
theorem dX8_addPerson_29 : decode cX8_addPerson 29 = .ok (.iastore, 1) := by decide +kernel
theorem dX8_addPerson_30 : decode cX8_addPerson 30 = .ok (.aload_n 0, 1) := by decide +kernel
theorem dX8_addPerson_31 : decode cX8_addPerson 31 = .ok (.dup, 1) := by decide +kernel
theorem dX8_addPerson_32 : decode cX8_addPerson 32 = .ok (.getfield 111, 3) := by decide +kernel
theorem dX8_addPerson_35 : decode cX8_addPerson 35 = .ok (.iconst 1, 1) := by decide +kernel
theorem dX8_addPerson_36 : decode cX8_addPerson 36 = .ok (.iadd, 1) := by decide +kernel
theorem dX8_addPerson_37 : decode cX8_addPerson 37 = .ok (.putfield 111, 3) := by decide +kernel
theorem dX8_addPerson_40 : decode cX8_addPerson 40 = .ok (.aload_n 0, 1) := by decide +kernel
theorem dX8_addPerson_41 : decode cX8_addPerson 41 = .ok (.getfield 111, 3) := by decide +kernel
theorem dX8_addPerson_44 : decode cX8_addPerson 44 = .ok (.iconst 1, 1) := by decide +kernel
theorem dX8_addPerson_45 : decode cX8_addPerson 45 = .ok (.isub, 1) := by decide +kernel
theorem dX8_addPerson_46 : decode cX8_addPerson 46 = .ok (.ireturn, 1) := by decide +kernel
theorem dX8_person_0 : decode cX8_person 0 = .ok (.iload_n 1, 1) := by decide +kernel
theorem dX8_person_1 : decode cX8_person 1 = .ok (.iload_n 2, 1) := by decide +kernel
theorem dX8_person_2 : decode cX8_person 2 = .ok (.invokestatic 122, 3) := by decide +kernel
theorem dX8_person_5 : decode cX8_person 5 = .ok (.ifCond .ne 5, 3) := by decide +kernel
theorem dX8_person_8 : decode cX8_person 8 = .ok (.iconst (-1), 1) := by decide +kernel
theorem dX8_person_9 : decode cX8_person 9 = .ok (.ireturn, 1) := by decide +kernel
theorem dX8_person_10 : decode cX8_person 10 = .ok (.aload_n 0, 1) := by decide +kernel
theorem dX8_person_11 : decode cX8_person 11 = .ok (.getfield 111, 3) := by decide +kernel
theorem dX8_person_14 : decode cX8_person 14 = .ok (.bipush 12, 2) := by decide +kernel
theorem dX8_person_16 : decode cX8_person 16 = .ok (.if_icmp .ne 8, 3) := by decide +kernel
theorem dX8_person_19 : decode cX8_person 19 = .ok (.bipush (-3), 2) := by decide +kernel
theorem dX8_person_21 : decode cX8_person 21 = .ok (.goto 10, 3) := by decide +kernel
theorem dX8_person_24 : decode cX8_person 24 = .ok (.aload_n 0, 1) := by decide +kernel
theorem dX8_person_25 : decode cX8_person 25 = .ok (.iload_n 1, 1) := by decide +kernel
theorem dX8_person_26 : decode cX8_person 26 = .ok (.iload_n 2, 1) := by decide +kernel
theorem dX8_person_27 : decode cX8_person 27 = .ok (.iconst (-1), 1) := by decide +kernel
theorem dX8_person_28 : decode cX8_person 28 = .ok (.invokevirtual 126, 3) := by decide +kernel
theorem dX8_person_31 : decode cX8_person 31 = .ok (.ireturn, 1) := by decide +kernel
theorem dX8_people_0 : decode cX8_people 0 = .ok (.iload_n 1, 1) := by decide +kernel
theorem dX8_people_1 : decode cX8_people 1 = .ok (.invokestatic 130, 3) := by decide +kernel
theorem dX8_people_4 : decode cX8_people 4 = .ok (.ifCond .eq 13, 3) := by decide +kernel
theorem dX8_people_7 : decode cX8_people 7 = .ok (.iload_n 3, 1) := by decide +kernel
theorem dX8_people_8 : decode cX8_people 8 = .ok (.iconst 1, 1) := by decide +kernel
theorem dX8_people_9 : decode cX8_people 9 = .ok (.bipush 12, 2) := by decide +kernel
theorem dX8_people_11 : decode cX8_people 11 = .ok (.invokestatic 114, 3) := by decide +kernel
theorem dX8_people_14 : decode cX8_people 14 = .ok (.ifCond .ne 5, 3) := by decide +kernel
theorem dX8_people_17 : decode cX8_people 17 = .ok (.iconst (-1), 1) := by decide +kernel
theorem dX8_people_18 : decode cX8_people 18 = .ok (.ireturn, 1) := by decide +kernel
theorem dX8_people_19 : decode cX8_people 19 = .ok (.aload_n 0, 1) := by decide +kernel
theorem dX8_people_20 : decode cX8_people 20 = .ok (.getfield 94, 3) := by decide +kernel
theorem dX8_people_23 : decode cX8_people 23 = .ok (.iload_n 1, 1) := by decide +kernel
theorem dX8_people_24 : decode cX8_people 24 = .ok (.iaload, 1) := by decide +kernel
theorem dX8_people_25 : decode cX8_people 25 = .ok (.iconst (-1), 1) := by decide +kernel
theorem dX8_people_26 : decode cX8_people 26 = .ok (.if_icmp .eq 17, 3) := by decide +kernel
theorem dX8_people_29 : decode cX8_people 29 = .ok (.aload_n 0, 1) := by decide +kernel
theorem dX8_people_30 : decode cX8_people 30 = .ok (.getfield 94, 3) := by decide +kernel
theorem dX8_people_33 : decode cX8_people 33 = .ok (.iload_n 1, 1) := by decide +kernel
theorem dX8_people_34 : decode cX8_people 34 = .ok (.iaload, 1) := by decide +kernel
theorem dX8_people_35 : decode cX8_people 35 = .ok (.bipush (-2), 2) := by decide +kernel
theorem dX8_people_37 : decode cX8_people 37 = .ok (.if_icmp .eq 6, 3) := by decide +kernel
theorem dX8_people_40 : decode cX8_people 40 = .ok (.bipush (-12), 2) := by decide +kernel
theorem dX8_people_42 : decode cX8_people 42 = .ok (.ireturn, 1) := by decide +kernel
theorem dX8_people_43 : decode cX8_people 43 = .ok (.aload_n 0, 1) := by decide +kernel
theorem dX8_people_44 : decode cX8_people 44 = .ok (.getfield 94, 3) := by decide +kernel
theorem dX8_people_47 : decode cX8_people 47 = .ok (.iload_n 1, 1) := by decide +kernel
theorem dX8_people_48 : decode cX8_people 48 = .ok (.iaload, 1) := by decide +kernel
theorem dX8_people_49 : decode cX8_people 49 = .ok (.iconst (-1), 1) := by decide +kernel
theorem dX8_people_50 : decode cX8_people 50 = .ok (.if_icmp .ne 5, 3) := by decide +kernel
theorem dX8_people_53 : decode cX8_people 53 = .ok (.iconst 0, 1) := by decide +kernel
theorem dX8_people_54 : decode cX8_people 54 = .ok (.ireturn, 1) := by decide +kernel
theorem dX8_people_55 : decode cX8_people 55 = .ok (.iconst 0, 1) := by decide +kernel
theorem dX8_people_56 : decode cX8_people 56 = .ok (.istore 4, 2) := by decide +kernel
theorem dX8_people_58 : decode cX8_people 58 = .ok (.iload 4, 2) := by decide +kernel
theorem dX8_people_60 : decode cX8_people 60 = .ok (.iload_n 3, 1) := by decide +kernel
theorem dX8_people_61 : decode cX8_people 61 = .ok (.if_icmp .ge 144, 3) := by decide +kernel
theorem dX8_people_64 : decode cX8_people 64 = .ok (.iload_n 2, 1) := by decide +kernel
theorem dX8_people_65 : decode cX8_people 65 = .ok (.i2l, 1) := by decide +kernel
theorem dX8_people_66 : decode cX8_people 66 = .ok (.iconst 3, 1) := by decide +kernel
theorem dX8_people_67 : decode cX8_people 67 = .ok (.iload 4, 2) := by decide +kernel
theorem dX8_people_69 : decode cX8_people 69 = .ok (.imul, 1) := by decide +kernel
theorem dX8_people_70 : decode cX8_people 70 = .ok (.i2l, 1) := by decide +kernel
theorem dX8_people_71 : decode cX8_people 71 = .ok (.ladd, 1) := by decide +kernel
theorem dX8_people_72 : decode cX8_people 72 = .ok (.lstore 5, 2) := by decide +kernel
theorem dX8_people_74 : decode cX8_people 74 = .ok (.lload 5, 2) := by decide +kernel
theorem dX8_people_76 : decode cX8_people 76 = .ok (.lconst 0, 1) := by decide +kernel
theorem dX8_people_77 : decode cX8_people 77 = .ok (.lcmp, 1) := by decide +kernel
theorem dX8_people_78 : decode cX8_people 78 = .ok (.ifCond .lt 29, 3) := by decide +kernel
theorem dX8_people_81 : decode cX8_people 81 = .ok (.lload 5, 2) := by decide +kernel
theorem dX8_people_83 : decode cX8_people 83 = .ok (.ldc2_w 133, 3) := by decide +kernel
theorem dX8_people_86 : decode cX8_people 86 = .ok (.ladd, 1) := by decide +kernel
theorem dX8_people_87 : decode cX8_people 87 = .ok (.aload_n 0, 1) := by decide +kernel
theorem dX8_people_88 : decode cX8_people 88 = .ok (.getfield 97, 3) := by decide +kernel
theorem dX8_people_91 : decode cX8_people 91 = .ok (.iload_n 1, 1) := by decide +kernel
theorem dX8_people_92 : decode cX8_people 92 = .ok (.iaload, 1) := by decide +kernel
theorem dX8_people_93 : decode cX8_people 93 = .ok (.i2l, 1) := by decide +kernel
theorem dX8_people_94 : decode cX8_people 94 = .ok (.lcmp, 1) := by decide +kernel
theorem dX8_people_95 : decode cX8_people 95 = .ok (.ifCond .ge 12, 3) := by decide +kernel
theorem dX8_people_98 : decode cX8_people 98 = .ok (.aload_n 0, 1) := by decide +kernel
theorem dX8_people_99 : decode cX8_people 99 = .ok (.getfield 111, 3) := by decide +kernel
theorem dX8_people_102 : decode cX8_people 102 = .ok (.bipush 12, 2) := by decide +kernel
theorem dX8_people_104 : decode cX8_people 104 = .ok (.if_icmp .ne 6, 3) := by decide +kernel
theorem dX8_people_107 : decode cX8_people 107 = .ok (.iload 4, 2) := by decide +kernel
theorem dX8_people_109 : decode cX8_people 109 = .ok (.ireturn, 1) := by decide +kernel
theorem dX8_people_110 : decode cX8_people 110 = .ok (.bipush 60, 2) := by decide +kernel
theorem dX8_people_112 : decode cX8_people 112 = .ok (.iload_n 1, 1) := by decide +kernel
theorem dX8_people_113 : decode cX8_people 113 = .ok (.imul, 1) := by decide +kernel
theorem dX8_people_114 : decode cX8_people 114 = .ok (.lload 5, 2) := by decide +kernel
theorem dX8_people_116 : decode cX8_people 116 = .ok (.l2i, 1) := by decide +kernel
theorem dX8_people_117 : decode cX8_people 117 = .ok (.iadd, 1) := by decide +kernel
theorem dX8_people_118 : decode cX8_people 118 = .ok (.istore 7, 2) := by decide +kernel
theorem dX8_people_120 : decode cX8_people 120 = .ok (.aload_n 0, 1) := by decide +kernel
theorem dX8_people_121 : decode cX8_people 121 = .ok (.getfield 100, 3) := by decide +kernel
theorem dX8_people_124 : decode cX8_people 124 = .ok (.iload 7, 2) := by decide +kernel
theorem dX8_people_126 : decode cX8_people 126 = .ok (.laload, 1) := by decide +kernel
theorem dX8_people_127 : decode cX8_people 127 = .ok (.l2i, 1) := by decide +kernel
theorem dX8_people_128 : decode cX8_people 128 = .ok (.aload_n 0, 1) := by decide +kernel
theorem dX8_people_129 : decode cX8_people 129 = .ok (.getfield 100, 3) := by decide +kernel
theorem dX8_people_132 : decode cX8_people 132 = .ok (.iload 7, 2) := by decide +kernel
theorem dX8_people_134 : decode cX8_people 134 = .ok (.iconst 1, 1) := by decide +kernel
theorem dX8_people_135 : decode cX8_people 135 = .ok (.iadd, 1) := by decide +kernel
theorem dX8_people_136 : decode cX8_people 136 = .ok (.laload, 1) := by decide +kernel
theorem dX8_people_137 : decode cX8_people 137 = .ok (.l2i, 1) := by decide +kernel
theorem dX8_people_138 : decode cX8_people 138 = .ok (.invokestatic 122, 3) := by decide +kernel
theorem dX8_people_141 : decode cX8_people 141 = .ok (.ifCond .eq 22, 3) := by decide +kernel
theorem dX8_people_144 : decode cX8_people 144 = .ok (.aload_n 0, 1) := by decide +kernel
theorem dX8_people_145 : decode cX8_people 145 = .ok (.getfield 100, 3) := by decide +kernel
theorem dX8_people_148 : decode cX8_people 148 = .ok (.iload 7, 2) := by decide +kernel
theorem dX8_people_150 : decode cX8_people 150 = .ok (.iconst 2, 1) := by decide +kernel
theorem dX8_people_151 : decode cX8_people 151 = .ok (.iadd, 1) := by decide +kernel
theorem dX8_people_152 : decode cX8_people 152 = .ok (.laload, 1) := by decide +kernel
theorem dX8_people_153 : decode cX8_people 153 = .ok (.l2i, 1) := by decide +kernel
theorem dX8_people_154 : decode cX8_people 154 = .ok (.iconst (-1), 1) := by decide +kernel
theorem dX8_people_155 : decode cX8_people 155 = .ok (.bipush 11, 2) := by decide +kernel
theorem dX8_people_157 : decode cX8_people 157 = .ok (.invokestatic 114, 3) := by decide +kernel
theorem dX8_people_160 : decode cX8_people 160 = .ok (.ifCond .ne 6, 3) := by decide +kernel
theorem dX8_people_163 : decode cX8_people 163 = .ok (.iload 4, 2) := by decide +kernel
theorem dX8_people_165 : decode cX8_people 165 = .ok (.ireturn, 1) := by decide +kernel
theorem dX8_people_166 : decode cX8_people 166 = .ok (.aload_n 0, 1) := by decide +kernel
theorem dX8_people_167 : decode cX8_people 167 = .ok (.aload_n 0, 1) := by decide +kernel
theorem dX8_people_168 : decode cX8_people 168 = .ok (.getfield 100, 3) := by decide +kernel
theorem dX8_people_171 : decode cX8_people 171 = .ok (.iload 7, 2) := by decide +kernel
theorem dX8_people_173 : decode cX8_people 173 = .ok (.laload, 1) := by decide +kernel
theorem dX8_people_174 : decode cX8_people 174 = .ok (.l2i, 1) := by decide +kernel
theorem dX8_people_175 : decode cX8_people 175 = .ok (.aload_n 0, 1) := by decide +kernel
theorem dX8_people_176 : decode cX8_people 176 = .ok (.getfield 100, 3) := by decide +kernel
theorem dX8_people_179 : decode cX8_people 179 = .ok (.iload 7, 2) := by decide +kernel
theorem dX8_people_181 : decode cX8_people 181 = .ok (.iconst 1, 1) := by decide +kernel
theorem dX8_people_182 : decode cX8_people 182 = .ok (.iadd, 1) := by decide +kernel
theorem dX8_people_183 : decode cX8_people 183 = .ok (.laload, 1) := by decide +kernel
theorem dX8_people_184 : decode cX8_people 184 = .ok (.l2i, 1) := by decide +kernel
theorem dX8_people_185 : decode cX8_people 185 = .ok (.aload_n 0, 1) := by decide +kernel
theorem dX8_people_186 : decode cX8_people 186 = .ok (.getfield 100, 3) := by decide +kernel
theorem dX8_people_189 : decode cX8_people 189 = .ok (.iload 7, 2) := by decide +kernel
theorem dX8_people_191 : decode cX8_people 191 = .ok (.iconst 2, 1) := by decide +kernel
theorem dX8_people_192 : decode cX8_people 192 = .ok (.iadd, 1) := by decide +kernel
theorem dX8_people_193 : decode cX8_people 193 = .ok (.laload, 1) := by decide +kernel
theorem dX8_people_194 : decode cX8_people 194 = .ok (.l2i, 1) := by decide +kernel
theorem dX8_people_195 : decode cX8_people 195 = .ok (.invokevirtual 126, 3) := by decide +kernel
theorem dX8_people_198 : decode cX8_people 198 = .ok (.pop, 1) := by decide +kernel
theorem dX8_people_199 : decode cX8_people 199 = .ok (.iinc 4 1, 3) := by decide +kernel
theorem dX8_people_202 : decode cX8_people 202 = .ok (.goto (-144), 3) := by decide +kernel
theorem dX8_people_205 : decode cX8_people 205 = .ok (.iload_n 3, 1) := by decide +kernel
theorem dX8_people_206 : decode cX8_people 206 = .ok (.ireturn, 1) := by decide +kernel
theorem dX8_meet_0 : decode cX8_meet 0 = .ok (.iload_n 1, 1) := by decide +kernel
theorem dX8_meet_1 : decode cX8_meet 1 = .ok (.ifCond .lt 67, 3) := by decide +kernel
theorem dX8_meet_4 : decode cX8_meet 4 = .ok (.aload_n 0, 1) := by decide +kernel
theorem dX8_meet_5 : decode cX8_meet 5 = .ok (.iload_n 1, 1) := by decide +kernel
theorem dX8_meet_6 : decode cX8_meet 6 = .ok (.bipush 100, 2) := by decide +kernel
theorem dX8_meet_8 : decode cX8_meet 8 = .ok (.idiv, 1) := by decide +kernel
theorem dX8_meet_9 : decode cX8_meet 9 = .ok (.invokevirtual 135, 3) := by decide +kernel
theorem dX8_meet_12 : decode cX8_meet 12 = .ok (.ifCond .eq 56, 3) := by decide +kernel
theorem dX8_meet_15 : decode cX8_meet 15 = .ok (.aload_n 0, 1) := by decide +kernel
theorem dX8_meet_16 : decode cX8_meet 16 = .ok (.iload_n 1, 1) := by decide +kernel
theorem dX8_meet_17 : decode cX8_meet 17 = .ok (.bipush 100, 2) := by decide +kernel
theorem dX8_meet_19 : decode cX8_meet 19 = .ok (.irem, 1) := by decide +kernel
theorem dX8_meet_20 : decode cX8_meet 20 = .ok (.invokevirtual 135, 3) := by decide +kernel
theorem dX8_meet_23 : decode cX8_meet 23 = .ok (.ifCond .eq 45, 3) := by decide +kernel
theorem dX8_meet_26 : decode cX8_meet 26 = .ok (.iload_n 1, 1) := by decide +kernel
theorem dX8_meet_27 : decode cX8_meet 27 = .ok (.bipush 100, 2) := by decide +kernel
theorem dX8_meet_29 : decode cX8_meet 29 = .ok (.idiv, 1) := by decide +kernel
theorem dX8_meet_30 : decode cX8_meet 30 = .ok (.iload_n 1, 1) := by decide +kernel
theorem dX8_meet_31 : decode cX8_meet 31 = .ok (.bipush 100, 2) := by decide +kernel
theorem dX8_meet_33 : decode cX8_meet 33 = .ok (.irem, 1) := by decide +kernel
theorem dX8_meet_34 : decode cX8_meet 34 = .ok (.if_icmp .eq 34, 3) := by decide +kernel
theorem dX8_meet_37 : decode cX8_meet 37 = .ok (.iload_n 2, 1) := by decide +kernel
theorem dX8_meet_38 : decode cX8_meet 38 = .ok (.invokestatic 118, 3) := by decide +kernel
theorem dX8_meet_41 : decode cX8_meet 41 = .ok (.ifCond .eq 27, 3) := by decide +kernel
theorem dX8_meet_44 : decode cX8_meet 44 = .ok (.aload_n 0, 1) := by decide +kernel
theorem dX8_meet_45 : decode cX8_meet 45 = .ok (.iload_n 1, 1) := by decide +kernel
theorem dX8_meet_46 : decode cX8_meet 46 = .ok (.bipush 100, 2) := by decide +kernel
theorem dX8_meet_48 : decode cX8_meet 48 = .ok (.idiv, 1) := by decide +kernel
theorem dX8_meet_49 : decode cX8_meet 49 = .ok (.iload_n 2, 1) := by decide +kernel
theorem dX8_meet_50 : decode cX8_meet 50 = .ok (.invokevirtual 138, 3) := by decide +kernel
theorem dX8_meet_53 : decode cX8_meet 53 = .ok (.ifCond .eq 15, 3) := by decide +kernel
theorem dX8_meet_56 : decode cX8_meet 56 = .ok (.aload_n 0, 1) := by decide +kernel
theorem dX8_meet_57 : decode cX8_meet 57 = .ok (.iload_n 1, 1) := by decide +kernel
theorem dX8_meet_58 : decode cX8_meet 58 = .ok (.bipush 100, 2) := by decide +kernel
theorem dX8_meet_60 : decode cX8_meet 60 = .ok (.irem, 1) := by decide +kernel
theorem dX8_meet_61 : decode cX8_meet 61 = .ok (.iload_n 2, 1) := by decide +kernel
theorem dX8_meet_62 : decode cX8_meet 62 = .ok (.invokevirtual 138, 3) := by decide +kernel
theorem dX8_meet_65 : decode cX8_meet 65 = .ok (.ifCond .ne 5, 3) := by decide +kernel
theorem dX8_meet_68 : decode cX8_meet 68 = .ok (.iconst (-1), 1) := by decide +kernel
theorem dX8_meet_69 : decode cX8_meet 69 = .ok (.ireturn, 1) := by decide +kernel
theorem dX8_meet_70 : decode cX8_meet 70 = .ok (.aload_n 0, 1) := by decide +kernel
theorem dX8_meet_71 : decode cX8_meet 71 = .ok (.getfield 141, 3) := by decide +kernel
theorem dX8_meet_74 : decode cX8_meet 74 = .ok (.bipush 16, 2) := by decide +kernel
theorem dX8_meet_76 : decode cX8_meet 76 = .ok (.if_icmp .ne 6, 3) := by decide +kernel
theorem dX8_meet_79 : decode cX8_meet 79 = .ok (.bipush (-3), 2) := by decide +kernel
theorem dX8_meet_81 : decode cX8_meet 81 = .ok (.ireturn, 1) := by decide +kernel
theorem dX8_meet_82 : decode cX8_meet 82 = .ok (.aload_n 0, 1) := by decide +kernel
theorem dX8_meet_83 : decode cX8_meet 83 = .ok (.getfield 19, 3) := by decide +kernel
theorem dX8_meet_86 : decode cX8_meet 86 = .ok (.aload_n 0, 1) := by decide +kernel
theorem dX8_meet_87 : decode cX8_meet 87 = .ok (.getfield 141, 3) := by decide +kernel
theorem dX8_meet_90 : decode cX8_meet 90 = .ok (.iload_n 1, 1) := by decide +kernel
theorem dX8_meet_91 : decode cX8_meet 91 = .ok (.bipush 100, 2) := by decide +kernel
theorem dX8_meet_93 : decode cX8_meet 93 = .ok (.idiv, 1) := by decide +kernel
theorem dX8_meet_94 : decode cX8_meet 94 = .ok (.iastore, 1) := by decide +kernel
theorem dX8_meet_95 : decode cX8_meet 95 = .ok (.aload_n 0, 1) := by decide +kernel
theorem dX8_meet_96 : decode cX8_meet 96 = .ok (.getfield 22, 3) := by decide +kernel
theorem dX8_meet_99 : decode cX8_meet 99 = .ok (.aload_n 0, 1) := by decide +kernel
theorem dX8_meet_100 : decode cX8_meet 100 = .ok (.getfield 141, 3) := by decide +kernel
theorem dX8_meet_103 : decode cX8_meet 103 = .ok (.iload_n 1, 1) := by decide +kernel
theorem dX8_meet_104 : decode cX8_meet 104 = .ok (.bipush 100, 2) := by decide +kernel
theorem dX8_meet_106 : decode cX8_meet 106 = .ok (.irem, 1) := by decide +kernel
theorem dX8_meet_107 : decode cX8_meet 107 = .ok (.iastore, 1) := by decide +kernel
theorem dX8_meet_108 : decode cX8_meet 108 = .ok (.aload_n 0, 1) := by decide +kernel
theorem dX8_meet_109 : decode cX8_meet 109 = .ok (.getfield 25, 3) := by decide +kernel
theorem dX8_meet_112 : decode cX8_meet 112 = .ok (.aload_n 0, 1) := by decide +kernel
theorem dX8_meet_113 : decode cX8_meet 113 = .ok (.getfield 141, 3) := by decide +kernel
theorem dX8_meet_116 : decode cX8_meet 116 = .ok (.iload_n 2, 1) := by decide +kernel
theorem dX8_meet_117 : decode cX8_meet 117 = .ok (.iastore, 1) := by decide +kernel
theorem dX8_meet_118 : decode cX8_meet 118 = .ok (.aload_n 0, 1) := by decide +kernel
theorem dX8_meet_119 : decode cX8_meet 119 = .ok (.dup, 1) := by decide +kernel
theorem dX8_meet_120 : decode cX8_meet 120 = .ok (.getfield 141, 3) := by decide +kernel
theorem dX8_meet_123 : decode cX8_meet 123 = .ok (.iconst 1, 1) := by decide +kernel
theorem dX8_meet_124 : decode cX8_meet 124 = .ok (.iadd, 1) := by decide +kernel
theorem dX8_meet_125 : decode cX8_meet 125 = .ok (.putfield 141, 3) := by decide +kernel
theorem dX8_meet_128 : decode cX8_meet 128 = .ok (.aload_n 0, 1) := by decide +kernel
theorem dX8_meet_129 : decode cX8_meet 129 = .ok (.getfield 141, 3) := by decide +kernel
theorem dX8_meet_132 : decode cX8_meet 132 = .ok (.iconst 1, 1) := by decide +kernel
theorem dX8_meet_133 : decode cX8_meet 133 = .ok (.isub, 1) := by decide +kernel
theorem dX8_meet_134 : decode cX8_meet 134 = .ok (.ireturn, 1) := by decide +kernel
theorem dX8_hearing_0 : decode cX8_hearing 0 = .ok (.iload_n 1, 1) := by decide +kernel
theorem dX8_hearing_1 : decode cX8_hearing 1 = .ok (.iconst 0, 1) := by decide +kernel
theorem dX8_hearing_2 : decode cX8_hearing 2 = .ok (.iconst 1, 1) := by decide +kernel
theorem dX8_hearing_3 : decode cX8_hearing 3 = .ok (.invokestatic 114, 3) := by decide +kernel
theorem dX8_hearing_6 : decode cX8_hearing 6 = .ok (.ifCond .ne 5, 3) := by decide +kernel
theorem dX8_hearing_9 : decode cX8_hearing 9 = .ok (.iconst (-1), 1) := by decide +kernel
theorem dX8_hearing_10 : decode cX8_hearing 10 = .ok (.ireturn, 1) := by decide +kernel
theorem dX8_hearing_11 : decode cX8_hearing 11 = .ok (.aload_n 0, 1) := by decide +kernel
theorem dX8_hearing_12 : decode cX8_hearing 12 = .ok (.getfield 144, 3) := by decide +kernel
theorem dX8_hearing_15 : decode cX8_hearing 15 = .ok (.istore_n 2, 1) := by decide +kernel
theorem dX8_hearing_16 : decode cX8_hearing 16 = .ok (.aload_n 0, 1) := by decide +kernel
theorem dX8_hearing_17 : decode cX8_hearing 17 = .ok (.iload_n 1, 1) := by decide +kernel
theorem dX8_hearing_18 : decode cX8_hearing 18 = .ok (.putfield 144, 3) := by decide +kernel
theorem dX8_hearing_21 : decode cX8_hearing 21 = .ok (.iload_n 2, 1) := by decide +kernel
theorem dX8_hearing_22 : decode cX8_hearing 22 = .ok (.ireturn, 1) := by decide +kernel
theorem dX8_name_0 : decode cX8_name 0 = .ok (.aload_n 0, 1) := by decide +kernel
theorem dX8_name_1 : decode cX8_name 1 = .ok (.iload_n 1, 1) := by decide +kernel
theorem dX8_name_2 : decode cX8_name 2 = .ok (.invokevirtual 135, 3) := by decide +kernel
theorem dX8_name_5 : decode cX8_name 5 = .ok (.ifCond .eq 13, 3) := by decide +kernel
theorem dX8_name_8 : decode cX8_name 8 = .ok (.iload_n 2, 1) := by decide +kernel
theorem dX8_name_9 : decode cX8_name 9 = .ok (.iconst (-1), 1) := by decide +kernel
theorem dX8_name_10 : decode cX8_name 10 = .ok (.bipush 11, 2) := by decide +kernel
theorem dX8_name_12 : decode cX8_name 12 = .ok (.invokestatic 114, 3) := by decide +kernel
theorem dX8_name_15 : decode cX8_name 15 = .ok (.ifCond .ne 6, 3) := by decide +kernel
theorem dX8_name_18 : decode cX8_name 18 = .ok (.ldc 147, 2) := by decide +kernel
theorem dX8_name_20 : decode cX8_name 20 = .ok (.ireturn, 1) := by decide +kernel
theorem dX8_name_21 : decode cX8_name 21 = .ok (.aload_n 0, 1) := by decide +kernel
theorem dX8_name_22 : decode cX8_name 22 = .ok (.getfield 16, 3) := by decide +kernel
theorem dX8_name_25 : decode cX8_name 25 = .ok (.iload_n 1, 1) := by decide +kernel
theorem dX8_name_26 : decode cX8_name 26 = .ok (.iaload, 1) := by decide +kernel
theorem dX8_name_27 : decode cX8_name 27 = .ok (.istore_n 3, 1) := by decide +kernel
theorem dX8_name_28 : decode cX8_name 28 = .ok (.aload_n 0, 1) := by decide +kernel
theorem dX8_name_29 : decode cX8_name 29 = .ok (.getfield 16, 3) := by decide +kernel
theorem dX8_name_32 : decode cX8_name 32 = .ok (.iload_n 1, 1) := by decide +kernel
theorem dX8_name_33 : decode cX8_name 33 = .ok (.iload_n 2, 1) := by decide +kernel
theorem dX8_name_34 : decode cX8_name 34 = .ok (.iastore, 1) := by decide +kernel
theorem dX8_name_35 : decode cX8_name 35 = .ok (.iload_n 3, 1) := by decide +kernel
theorem dX8_name_36 : decode cX8_name 36 = .ok (.ireturn, 1) := by decide +kernel
theorem dX8_fame_0 : decode cX8_fame 0 = .ok (.iload_n 1, 1) := by decide +kernel
theorem dX8_fame_1 : decode cX8_fame 1 = .ok (.invokestatic 148, 3) := by decide +kernel
theorem dX8_fame_4 : decode cX8_fame 4 = .ok (.ifCond .eq 12, 3) := by decide +kernel
theorem dX8_fame_7 : decode cX8_fame 7 = .ok (.iload_n 2, 1) := by decide +kernel
theorem dX8_fame_8 : decode cX8_fame 8 = .ok (.iconst 0, 1) := by decide +kernel
theorem dX8_fame_9 : decode cX8_fame 9 = .ok (.iconst 1, 1) := by decide +kernel
theorem dX8_fame_10 : decode cX8_fame 10 = .ok (.invokestatic 114, 3) := by decide +kernel
theorem dX8_fame_13 : decode cX8_fame 13 = .ok (.ifCond .ne 5, 3) := by decide +kernel
theorem dX8_fame_16 : decode cX8_fame 16 = .ok (.iconst (-1), 1) := by decide +kernel
theorem dX8_fame_17 : decode cX8_fame 17 = .ok (.ireturn, 1) := by decide +kernel
theorem dX8_fame_18 : decode cX8_fame 18 = .ok (.aload_n 0, 1) := by decide +kernel
theorem dX8_fame_19 : decode cX8_fame 19 = .ok (.getfield 31, 3) := by decide +kernel
theorem dX8_fame_22 : decode cX8_fame 22 = .ok (.iload_n 1, 1) := by decide +kernel
theorem dX8_fame_23 : decode cX8_fame 23 = .ok (.iaload, 1) := by decide +kernel
theorem dX8_fame_24 : decode cX8_fame 24 = .ok (.istore_n 3, 1) := by decide +kernel
theorem dX8_fame_25 : decode cX8_fame 25 = .ok (.aload_n 0, 1) := by decide +kernel
theorem dX8_fame_26 : decode cX8_fame 26 = .ok (.getfield 31, 3) := by decide +kernel
theorem dX8_fame_29 : decode cX8_fame 29 = .ok (.iload_n 1, 1) := by decide +kernel
theorem dX8_fame_30 : decode cX8_fame 30 = .ok (.iload_n 2, 1) := by decide +kernel
theorem dX8_fame_31 : decode cX8_fame 31 = .ok (.iastore, 1) := by decide +kernel
theorem dX8_fame_32 : decode cX8_fame 32 = .ok (.iload_n 3, 1) := by decide +kernel
theorem dX8_fame_33 : decode cX8_fame 33 = .ok (.ireturn, 1) := by decide +kernel
theorem dX8_valueAt_0 : decode cX8_valueAt 0 = .ok (.iload_n 1, 1) := by decide +kernel
theorem dX8_valueAt_1 : decode cX8_valueAt 1 = .ok (.ifCond .ne 12, 3) := by decide +kernel
theorem dX8_valueAt_4 : decode cX8_valueAt 4 = .ok (.aload_n 0, 1) := by decide +kernel
theorem dX8_valueAt_5 : decode cX8_valueAt 5 = .ok (.getfield 13, 3) := by decide +kernel
theorem dX8_valueAt_8 : decode cX8_valueAt 8 = .ok (.iload_n 2, 1) := by decide +kernel
theorem dX8_valueAt_9 : decode cX8_valueAt 9 = .ok (.iaload, 1) := by decide +kernel
theorem dX8_valueAt_10 : decode cX8_valueAt 10 = .ok (.goto 9, 3) := by decide +kernel
theorem dX8_valueAt_13 : decode cX8_valueAt 13 = .ok (.aload_n 0, 1) := by decide +kernel
theorem dX8_valueAt_14 : decode cX8_valueAt 14 = .ok (.getfield 28, 3) := by decide +kernel
theorem dX8_valueAt_17 : decode cX8_valueAt 17 = .ok (.iload_n 2, 1) := by decide +kernel
theorem dX8_valueAt_18 : decode cX8_valueAt 18 = .ok (.iaload, 1) := by decide +kernel
theorem dX8_valueAt_19 : decode cX8_valueAt 19 = .ok (.ireturn, 1) := by decide +kernel
theorem dX8_lays_0 : decode cX8_lays 0 = .ok (.iload_n 1, 1) := by decide +kernel
theorem dX8_lays_1 : decode cX8_lays 1 = .ok (.ifCond .ne 13, 3) := by decide +kernel
theorem dX8_lays_4 : decode cX8_lays 4 = .ok (.aload_n 0, 1) := by decide +kernel
theorem dX8_lays_5 : decode cX8_lays 5 = .ok (.getfield 13, 3) := by decide +kernel
theorem dX8_lays_8 : decode cX8_lays 8 = .ok (.iload_n 2, 1) := by decide +kernel
theorem dX8_lays_9 : decode cX8_lays 9 = .ok (.iload_n 3, 1) := by decide +kernel
theorem dX8_lays_10 : decode cX8_lays 10 = .ok (.iastore, 1) := by decide +kernel
theorem dX8_lays_11 : decode cX8_lays 11 = .ok (.goto 10, 3) := by decide +kernel
theorem dX8_lays_14 : decode cX8_lays 14 = .ok (.aload_n 0, 1) := by decide +kernel
theorem dX8_lays_15 : decode cX8_lays 15 = .ok (.getfield 28, 3) := by decide +kernel
theorem dX8_lays_18 : decode cX8_lays 18 = .ok (.iload_n 2, 1) := by decide +kernel
theorem dX8_lays_19 : decode cX8_lays 19 = .ok (.iload_n 3, 1) := by decide +kernel
theorem dX8_lays_20 : decode cX8_lays 20 = .ok (.iastore, 1) := by decide +kernel
theorem dX8_lays_21 : decode cX8_lays 21 = .ok (.return_, 1) := by decide +kernel
theorem dX8_changes_0 : decode cX8_changes 0 = .ok (.aload_n 0, 1) := by decide +kernel
theorem dX8_changes_1 : decode cX8_changes 1 = .ok (.iload_n 1, 1) := by decide +kernel
theorem dX8_changes_2 : decode cX8_changes 2 = .ok (.iload_n 2, 1) := by decide +kernel
theorem dX8_changes_3 : decode cX8_changes 3 = .ok (.invokevirtual 151, 3) := by decide +kernel
theorem dX8_changes_6 : decode cX8_changes 6 = .ok (.istore 4, 2) := by decide +kernel
theorem dX8_changes_8 : decode cX8_changes 8 = .ok (.iload 4, 2) := by decide +kernel
theorem dX8_changes_10 : decode cX8_changes 10 = .ok (.iload_n 3, 1) := by decide +kernel
theorem dX8_changes_11 : decode cX8_changes 11 = .ok (.if_icmp .ne 6, 3) := by decide +kernel
theorem dX8_changes_14 : decode cX8_changes 14 = .ok (.iload 4, 2) := by decide +kernel
theorem dX8_changes_16 : decode cX8_changes 16 = .ok (.ireturn, 1) := by decide +kernel
theorem dX8_changes_17 : decode cX8_changes 17 = .ok (.aload_n 0, 1) := by decide +kernel
theorem dX8_changes_18 : decode cX8_changes 18 = .ok (.iconst 0, 1) := by decide +kernel
theorem dX8_changes_19 : decode cX8_changes 19 = .ok (.putfield 155, 3) := by decide +kernel
theorem dX8_changes_22 : decode cX8_changes 22 = .ok (.aload_n 0, 1) := by decide +kernel
theorem dX8_changes_23 : decode cX8_changes 23 = .ok (.getfield 158, 3) := by decide +kernel
theorem dX8_changes_26 : decode cX8_changes 26 = .ok (.bipush 40, 2) := by decide +kernel
theorem dX8_changes_28 : decode cX8_changes 28 = .ok (.if_icmp .ne 93, 3) := by decide +kernel
theorem dX8_changes_31 : decode cX8_changes 31 = .ok (.iconst 1, 1) := by decide +kernel
theorem dX8_changes_32 : decode cX8_changes 32 = .ok (.istore 5, 2) := by decide +kernel
theorem dX8_changes_34 : decode cX8_changes 34 = .ok (.iload 5, 2) := by decide +kernel
theorem dX8_changes_36 : decode cX8_changes 36 = .ok (.bipush 40, 2) := by decide +kernel
theorem dX8_changes_38 : decode cX8_changes 38 = .ok (.if_icmp .ge 73, 3) := by decide +kernel
theorem dX8_changes_41 : decode cX8_changes 41 = .ok (.aload_n 0, 1) := by decide +kernel
theorem dX8_changes_42 : decode cX8_changes 42 = .ok (.getfield 34, 3) := by decide +kernel
theorem dX8_changes_45 : decode cX8_changes 45 = .ok (.iload 5, 2) := by decide +kernel
theorem dX8_changes_47 : decode cX8_changes 47 = .ok (.iconst 1, 1) := by decide +kernel
theorem dX8_changes_48 : decode cX8_changes 48 = .ok (.isub, 1) := by decide +kernel
theorem dX8_changes_49 : decode cX8_changes 49 = .ok (.aload_n 0, 1) := by decide +kernel
theorem dX8_changes_50 : decode cX8_changes 50 = .ok (.getfield 34, 3) := by decide +kernel
theorem dX8_changes_53 : decode cX8_changes 53 = .ok (.iload 5, 2) := by decide +kernel
theorem dX8_changes_55 : decode cX8_changes 55 = .ok (.iaload, 1) := by decide +kernel
theorem dX8_changes_56 : decode cX8_changes 56 = .ok (.iastore, 1) := by decide +kernel
theorem dX8_changes_57 : decode cX8_changes 57 = .ok (.aload_n 0, 1) := by decide +kernel
theorem dX8_changes_58 : decode cX8_changes 58 = .ok (.getfield 37, 3) := by decide +kernel
theorem dX8_changes_61 : decode cX8_changes 61 = .ok (.iload 5, 2) := by decide +kernel
theorem dX8_changes_63 : decode cX8_changes 63 = .ok (.iconst 1, 1) := by decide +kernel
theorem dX8_changes_64 : decode cX8_changes 64 = .ok (.isub, 1) := by decide +kernel
theorem dX8_changes_65 : decode cX8_changes 65 = .ok (.aload_n 0, 1) := by decide +kernel
theorem dX8_changes_66 : decode cX8_changes 66 = .ok (.getfield 37, 3) := by decide +kernel
theorem dX8_changes_69 : decode cX8_changes 69 = .ok (.iload 5, 2) := by decide +kernel
theorem dX8_changes_71 : decode cX8_changes 71 = .ok (.iaload, 1) := by decide +kernel
theorem dX8_changes_72 : decode cX8_changes 72 = .ok (.iastore, 1) := by decide +kernel
theorem dX8_changes_73 : decode cX8_changes 73 = .ok (.aload_n 0, 1) := by decide +kernel
theorem dX8_changes_74 : decode cX8_changes 74 = .ok (.getfield 40, 3) := by decide +kernel
theorem dX8_changes_77 : decode cX8_changes 77 = .ok (.iload 5, 2) := by decide +kernel
theorem dX8_changes_79 : decode cX8_changes 79 = .ok (.iconst 1, 1) := by decide +kernel
theorem dX8_changes_80 : decode cX8_changes 80 = .ok (.isub, 1) := by decide +kernel
theorem dX8_changes_81 : decode cX8_changes 81 = .ok (.aload_n 0, 1) := by decide +kernel
theorem dX8_changes_82 : decode cX8_changes 82 = .ok (.getfield 40, 3) := by decide +kernel
theorem dX8_changes_85 : decode cX8_changes 85 = .ok (.iload 5, 2) := by decide +kernel
theorem dX8_changes_87 : decode cX8_changes 87 = .ok (.iaload, 1) := by decide +kernel
theorem dX8_changes_88 : decode cX8_changes 88 = .ok (.iastore, 1) := by decide +kernel
theorem dX8_changes_89 : decode cX8_changes 89 = .ok (.aload_n 0, 1) := by decide +kernel
theorem dX8_changes_90 : decode cX8_changes 90 = .ok (.getfield 43, 3) := by decide +kernel
theorem dX8_changes_93 : decode cX8_changes 93 = .ok (.iload 5, 2) := by decide +kernel
theorem dX8_changes_95 : decode cX8_changes 95 = .ok (.iconst 1, 1) := by decide +kernel
theorem dX8_changes_96 : decode cX8_changes 96 = .ok (.isub, 1) := by decide +kernel
theorem dX8_changes_97 : decode cX8_changes 97 = .ok (.aload_n 0, 1) := by decide +kernel
theorem dX8_changes_98 : decode cX8_changes 98 = .ok (.getfield 43, 3) := by decide +kernel
theorem dX8_changes_101 : decode cX8_changes 101 = .ok (.iload 5, 2) := by decide +kernel
theorem dX8_changes_103 : decode cX8_changes 103 = .ok (.iaload, 1) := by decide +kernel
theorem dX8_changes_104 : decode cX8_changes 104 = .ok (.iastore, 1) := by decide +kernel
theorem dX8_changes_105 : decode cX8_changes 105 = .ok (.iinc 5 1, 3) := by decide +kernel
theorem dX8_changes_108 : decode cX8_changes 108 = .ok (.goto (-74), 3) := by decide +kernel
theorem dX8_changes_111 : decode cX8_changes 111 = .ok (.aload_n 0, 1) := by decide +kernel
theorem dX8_changes_112 : decode cX8_changes 112 = .ok (.dup, 1) := by decide +kernel
theorem dX8_changes_113 : decode cX8_changes 113 = .ok (.getfield 158, 3) := by decide +kernel
theorem dX8_changes_116 : decode cX8_changes 116 = .ok (.iconst 1, 1) := by decide +kernel
theorem dX8_changes_117 : decode cX8_changes 117 = .ok (.isub, 1) := by decide +kernel
theorem dX8_changes_118 : decode cX8_changes 118 = .ok (.putfield 158, 3) := by decide +kernel
theorem dX8_changes_121 : decode cX8_changes 121 = .ok (.aload_n 0, 1) := by decide +kernel
theorem dX8_changes_122 : decode cX8_changes 122 = .ok (.getfield 34, 3) := by decide +kernel
theorem dX8_changes_125 : decode cX8_changes 125 = .ok (.aload_n 0, 1) := by decide +kernel
theorem dX8_changes_126 : decode cX8_changes 126 = .ok (.getfield 158, 3) := by decide +kernel
theorem dX8_changes_129 : decode cX8_changes 129 = .ok (.iload_n 1, 1) := by decide +kernel
theorem dX8_changes_130 : decode cX8_changes 130 = .ok (.iastore, 1) := by decide +kernel
theorem dX8_changes_131 : decode cX8_changes 131 = .ok (.aload_n 0, 1) := by decide +kernel
theorem dX8_changes_132 : decode cX8_changes 132 = .ok (.getfield 37, 3) := by decide +kernel
theorem dX8_changes_135 : decode cX8_changes 135 = .ok (.aload_n 0, 1) := by decide +kernel
theorem dX8_changes_136 : decode cX8_changes 136 = .ok (.getfield 158, 3) := by decide +kernel
theorem dX8_changes_139 : decode cX8_changes 139 = .ok (.iload_n 2, 1) := by decide +kernel
theorem dX8_changes_140 : decode cX8_changes 140 = .ok (.iastore, 1) := by decide +kernel
theorem dX8_changes_141 : decode cX8_changes 141 = .ok (.aload_n 0, 1) := by decide +kernel
theorem dX8_changes_142 : decode cX8_changes 142 = .ok (.getfield 40, 3) := by decide +kernel
theorem dX8_changes_145 : decode cX8_changes 145 = .ok (.aload_n 0, 1) := by decide +kernel
theorem dX8_changes_146 : decode cX8_changes 146 = .ok (.getfield 158, 3) := by decide +kernel
theorem dX8_changes_149 : decode cX8_changes 149 = .ok (.iload 4, 2) := by decide +kernel
theorem dX8_changes_151 : decode cX8_changes 151 = .ok (.iastore, 1) := by decide +kernel
theorem dX8_changes_152 : decode cX8_changes 152 = .ok (.aload_n 0, 1) := by decide +kernel
theorem dX8_changes_153 : decode cX8_changes 153 = .ok (.getfield 43, 3) := by decide +kernel
theorem dX8_changes_156 : decode cX8_changes 156 = .ok (.aload_n 0, 1) := by decide +kernel
theorem dX8_changes_157 : decode cX8_changes 157 = .ok (.getfield 158, 3) := by decide +kernel
theorem dX8_changes_160 : decode cX8_changes 160 = .ok (.iload_n 3, 1) := by decide +kernel
theorem dX8_changes_161 : decode cX8_changes 161 = .ok (.iastore, 1) := by decide +kernel
theorem dX8_changes_162 : decode cX8_changes 162 = .ok (.aload_n 0, 1) := by decide +kernel
theorem dX8_changes_163 : decode cX8_changes 163 = .ok (.dup, 1) := by decide +kernel
theorem dX8_changes_164 : decode cX8_changes 164 = .ok (.getfield 158, 3) := by decide +kernel
theorem dX8_changes_167 : decode cX8_changes 167 = .ok (.iconst 1, 1) := by decide +kernel
theorem dX8_changes_168 : decode cX8_changes 168 = .ok (.iadd, 1) := by decide +kernel
theorem dX8_changes_169 : decode cX8_changes 169 = .ok (.putfield 158, 3) := by decide +kernel
theorem dX8_changes_172 : decode cX8_changes 172 = .ok (.aload_n 0, 1) := by decide +kernel
theorem dX8_changes_173 : decode cX8_changes 173 = .ok (.iload_n 1, 1) := by decide +kernel
theorem dX8_changes_174 : decode cX8_changes 174 = .ok (.iload_n 2, 1) := by decide +kernel
theorem dX8_changes_175 : decode cX8_changes 175 = .ok (.iload_n 3, 1) := by decide +kernel
theorem dX8_changes_176 : decode cX8_changes 176 = .ok (.invokevirtual 161, 3) := by decide +kernel
theorem dX8_changes_179 : decode cX8_changes 179 = .ok (.iload 4, 2) := by decide +kernel
theorem dX8_changes_181 : decode cX8_changes 181 = .ok (.ireturn, 1) := by decide +kernel
theorem dX8_undo_0 : decode cX8_undo 0 = .ok (.aload_n 0, 1) := by decide +kernel
theorem dX8_undo_1 : decode cX8_undo 1 = .ok (.getfield 158, 3) := by decide +kernel
theorem dX8_undo_4 : decode cX8_undo 4 = .ok (.ifCond .ne 6, 3) := by decide +kernel
theorem dX8_undo_7 : decode cX8_undo 7 = .ok (.bipush (-5), 2) := by decide +kernel
theorem dX8_undo_9 : decode cX8_undo 9 = .ok (.ireturn, 1) := by decide +kernel
theorem dX8_undo_10 : decode cX8_undo 10 = .ok (.aload_n 0, 1) := by decide +kernel
theorem dX8_undo_11 : decode cX8_undo 11 = .ok (.dup, 1) := by decide +kernel
theorem dX8_undo_12 : decode cX8_undo 12 = .ok (.getfield 158, 3) := by decide +kernel
theorem dX8_undo_15 : decode cX8_undo 15 = .ok (.iconst 1, 1) := by decide +kernel
theorem dX8_undo_16 : decode cX8_undo 16 = .ok (.isub, 1) := by decide +kernel
theorem dX8_undo_17 : decode cX8_undo 17 = .ok (.putfield 158, 3) := by decide +kernel
theorem dX8_undo_20 : decode cX8_undo 20 = .ok (.aload_n 0, 1) := by decide +kernel
theorem dX8_undo_21 : decode cX8_undo 21 = .ok (.dup, 1) := by decide +kernel
theorem dX8_undo_22 : decode cX8_undo 22 = .ok (.getfield 155, 3) := by decide +kernel
theorem dX8_undo_25 : decode cX8_undo 25 = .ok (.iconst 1, 1) := by decide +kernel
theorem dX8_undo_26 : decode cX8_undo 26 = .ok (.iadd, 1) := by decide +kernel
theorem dX8_undo_27 : decode cX8_undo 27 = .ok (.putfield 155, 3) := by decide +kernel
theorem dX8_undo_30 : decode cX8_undo 30 = .ok (.aload_n 0, 1) := by decide +kernel
theorem dX8_undo_31 : decode cX8_undo 31 = .ok (.aload_n 0, 1) := by decide +kernel
theorem dX8_undo_32 : decode cX8_undo 32 = .ok (.getfield 34, 3) := by decide +kernel
theorem dX8_undo_35 : decode cX8_undo 35 = .ok (.aload_n 0, 1) := by decide +kernel
theorem dX8_undo_36 : decode cX8_undo 36 = .ok (.getfield 158, 3) := by decide +kernel
theorem dX8_undo_39 : decode cX8_undo 39 = .ok (.iaload, 1) := by decide +kernel
theorem dX8_undo_40 : decode cX8_undo 40 = .ok (.aload_n 0, 1) := by decide +kernel
theorem dX8_undo_41 : decode cX8_undo 41 = .ok (.getfield 37, 3) := by decide +kernel
theorem dX8_undo_44 : decode cX8_undo 44 = .ok (.aload_n 0, 1) := by decide +kernel
theorem dX8_undo_45 : decode cX8_undo 45 = .ok (.getfield 158, 3) := by decide +kernel
theorem dX8_undo_48 : decode cX8_undo 48 = .ok (.iaload, 1) := by decide +kernel
theorem dX8_undo_49 : decode cX8_undo 49 = .ok (.aload_n 0, 1) := by decide +kernel
theorem dX8_undo_50 : decode cX8_undo 50 = .ok (.getfield 40, 3) := by decide +kernel
theorem dX8_undo_53 : decode cX8_undo 53 = .ok (.aload_n 0, 1) := by decide +kernel
theorem dX8_undo_54 : decode cX8_undo 54 = .ok (.getfield 158, 3) := by decide +kernel
theorem dX8_undo_57 : decode cX8_undo 57 = .ok (.iaload, 1) := by decide +kernel
theorem dX8_undo_58 : decode cX8_undo 58 = .ok (.invokevirtual 161, 3) := by decide +kernel
theorem dX8_undo_61 : decode cX8_undo 61 = .ok (.aload_n 0, 1) := by decide +kernel
theorem dX8_undo_62 : decode cX8_undo 62 = .ok (.getfield 158, 3) := by decide +kernel
theorem dX8_undo_65 : decode cX8_undo 65 = .ok (.ireturn, 1) := by decide +kernel
theorem dX8_redo_0 : decode cX8_redo 0 = .ok (.aload_n 0, 1) := by decide +kernel
theorem dX8_redo_1 : decode cX8_redo 1 = .ok (.getfield 155, 3) := by decide +kernel
theorem dX8_redo_4 : decode cX8_redo 4 = .ok (.ifCond .ne 6, 3) := by decide +kernel
theorem dX8_redo_7 : decode cX8_redo 7 = .ok (.bipush (-5), 2) := by decide +kernel
theorem dX8_redo_9 : decode cX8_redo 9 = .ok (.ireturn, 1) := by decide +kernel
theorem dX8_redo_10 : decode cX8_redo 10 = .ok (.aload_n 0, 1) := by decide +kernel
theorem dX8_redo_11 : decode cX8_redo 11 = .ok (.aload_n 0, 1) := by decide +kernel
theorem dX8_redo_12 : decode cX8_redo 12 = .ok (.getfield 34, 3) := by decide +kernel
theorem dX8_redo_15 : decode cX8_redo 15 = .ok (.aload_n 0, 1) := by decide +kernel
theorem dX8_redo_16 : decode cX8_redo 16 = .ok (.getfield 158, 3) := by decide +kernel
theorem dX8_redo_19 : decode cX8_redo 19 = .ok (.iaload, 1) := by decide +kernel
theorem dX8_redo_20 : decode cX8_redo 20 = .ok (.aload_n 0, 1) := by decide +kernel
theorem dX8_redo_21 : decode cX8_redo 21 = .ok (.getfield 37, 3) := by decide +kernel
theorem dX8_redo_24 : decode cX8_redo 24 = .ok (.aload_n 0, 1) := by decide +kernel
theorem dX8_redo_25 : decode cX8_redo 25 = .ok (.getfield 158, 3) := by decide +kernel
theorem dX8_redo_28 : decode cX8_redo 28 = .ok (.iaload, 1) := by decide +kernel
theorem dX8_redo_29 : decode cX8_redo 29 = .ok (.aload_n 0, 1) := by decide +kernel
theorem dX8_redo_30 : decode cX8_redo 30 = .ok (.getfield 43, 3) := by decide +kernel
theorem dX8_redo_33 : decode cX8_redo 33 = .ok (.aload_n 0, 1) := by decide +kernel
theorem dX8_redo_34 : decode cX8_redo 34 = .ok (.getfield 158, 3) := by decide +kernel
theorem dX8_redo_37 : decode cX8_redo 37 = .ok (.iaload, 1) := by decide +kernel
theorem dX8_redo_38 : decode cX8_redo 38 = .ok (.invokevirtual 161, 3) := by decide +kernel
theorem dX8_redo_41 : decode cX8_redo 41 = .ok (.aload_n 0, 1) := by decide +kernel
theorem dX8_redo_42 : decode cX8_redo 42 = .ok (.dup, 1) := by decide +kernel
theorem dX8_redo_43 : decode cX8_redo 43 = .ok (.getfield 158, 3) := by decide +kernel
theorem dX8_redo_46 : decode cX8_redo 46 = .ok (.iconst 1, 1) := by decide +kernel
theorem dX8_redo_47 : decode cX8_redo 47 = .ok (.iadd, 1) := by decide +kernel
theorem dX8_redo_48 : decode cX8_redo 48 = .ok (.putfield 158, 3) := by decide +kernel
theorem dX8_redo_51 : decode cX8_redo 51 = .ok (.aload_n 0, 1) := by decide +kernel
theorem dX8_redo_52 : decode cX8_redo 52 = .ok (.dup, 1) := by decide +kernel
theorem dX8_redo_53 : decode cX8_redo 53 = .ok (.getfield 155, 3) := by decide +kernel
theorem dX8_redo_56 : decode cX8_redo 56 = .ok (.iconst 1, 1) := by decide +kernel
theorem dX8_redo_57 : decode cX8_redo 57 = .ok (.isub, 1) := by decide +kernel
theorem dX8_redo_58 : decode cX8_redo 58 = .ok (.putfield 155, 3) := by decide +kernel
theorem dX8_redo_61 : decode cX8_redo 61 = .ok (.aload_n 0, 1) := by decide +kernel
theorem dX8_redo_62 : decode cX8_redo 62 = .ok (.getfield 155, 3) := by decide +kernel
theorem dX8_redo_65 : decode cX8_redo 65 = .ok (.ireturn, 1) := by decide +kernel
theorem dX8_mend_0 : decode cX8_mend 0 = .ok (.iload_n 2, 1) := by decide +kernel
theorem dX8_mend_1 : decode cX8_mend 1 = .ok (.ifCond .ne 40, 3) := by decide +kernel
theorem dX8_mend_4 : decode cX8_mend 4 = .ok (.aload_n 0, 1) := by decide +kernel
theorem dX8_mend_5 : decode cX8_mend 5 = .ok (.iload_n 1, 1) := by decide +kernel
theorem dX8_mend_6 : decode cX8_mend 6 = .ok (.invokevirtual 135, 3) := by decide +kernel
theorem dX8_mend_9 : decode cX8_mend 9 = .ok (.ifCond .eq 30, 3) := by decide +kernel
theorem dX8_mend_12 : decode cX8_mend 12 = .ok (.iload_n 3, 1) := by decide +kernel
theorem dX8_mend_13 : decode cX8_mend 13 = .ok (.aload_n 0, 1) := by decide +kernel
theorem dX8_mend_14 : decode cX8_mend 14 = .ok (.getfield 7, 3) := by decide +kernel
theorem dX8_mend_17 : decode cX8_mend 17 = .ok (.iload_n 1, 1) := by decide +kernel
theorem dX8_mend_18 : decode cX8_mend 18 = .ok (.iaload, 1) := by decide +kernel
theorem dX8_mend_19 : decode cX8_mend 19 = .ok (.iconst 1, 1) := by decide +kernel
theorem dX8_mend_20 : decode cX8_mend 20 = .ok (.iadd, 1) := by decide +kernel
theorem dX8_mend_21 : decode cX8_mend 21 = .ok (.bipush 100, 2) := by decide +kernel
theorem dX8_mend_23 : decode cX8_mend 23 = .ok (.invokestatic 114, 3) := by decide +kernel
theorem dX8_mend_26 : decode cX8_mend 26 = .ok (.ifCond .eq 13, 3) := by decide +kernel
theorem dX8_mend_29 : decode cX8_mend 29 = .ok (.aload_n 0, 1) := by decide +kernel
theorem dX8_mend_30 : decode cX8_mend 30 = .ok (.iconst 0, 1) := by decide +kernel
theorem dX8_mend_31 : decode cX8_mend 31 = .ok (.iload_n 1, 1) := by decide +kernel
theorem dX8_mend_32 : decode cX8_mend 32 = .ok (.iload_n 3, 1) := by decide +kernel
theorem dX8_mend_33 : decode cX8_mend 33 = .ok (.invokevirtual 165, 3) := by decide +kernel
theorem dX8_mend_36 : decode cX8_mend 36 = .ok (.goto 4, 3) := by decide +kernel
theorem dX8_mend_39 : decode cX8_mend 39 = .ok (.iconst (-1), 1) := by decide +kernel
theorem dX8_mend_40 : decode cX8_mend 40 = .ok (.ireturn, 1) := by decide +kernel
theorem dX8_mend_41 : decode cX8_mend 41 = .ok (.iload_n 2, 1) := by decide +kernel
theorem dX8_mend_42 : decode cX8_mend 42 = .ok (.iconst 1, 1) := by decide +kernel
theorem dX8_mend_43 : decode cX8_mend 43 = .ok (.if_icmp .ne 30, 3) := by decide +kernel
theorem dX8_mend_46 : decode cX8_mend 46 = .ok (.iload_n 1, 1) := by decide +kernel
theorem dX8_mend_47 : decode cX8_mend 47 = .ok (.invokestatic 148, 3) := by decide +kernel
theorem dX8_mend_50 : decode cX8_mend 50 = .ok (.ifCond .eq 23, 3) := by decide +kernel
theorem dX8_mend_53 : decode cX8_mend 53 = .ok (.iload_n 3, 1) := by decide +kernel
theorem dX8_mend_54 : decode cX8_mend 54 = .ok (.iconst 0, 1) := by decide +kernel
theorem dX8_mend_55 : decode cX8_mend 55 = .ok (.bipush 9, 2) := by decide +kernel
theorem dX8_mend_57 : decode cX8_mend 57 = .ok (.invokestatic 114, 3) := by decide +kernel
theorem dX8_mend_60 : decode cX8_mend 60 = .ok (.ifCond .eq 13, 3) := by decide +kernel
theorem dX8_mend_63 : decode cX8_mend 63 = .ok (.aload_n 0, 1) := by decide +kernel
theorem dX8_mend_64 : decode cX8_mend 64 = .ok (.iconst 1, 1) := by decide +kernel
theorem dX8_mend_65 : decode cX8_mend 65 = .ok (.iload_n 1, 1) := by decide +kernel
theorem dX8_mend_66 : decode cX8_mend 66 = .ok (.iload_n 3, 1) := by decide +kernel
theorem dX8_mend_67 : decode cX8_mend 67 = .ok (.invokevirtual 165, 3) := by decide +kernel
theorem dX8_mend_70 : decode cX8_mend 70 = .ok (.goto 4, 3) := by decide +kernel
theorem dX8_mend_73 : decode cX8_mend 73 = .ok (.iconst (-1), 1) := by decide +kernel
theorem dX8_mend_74 : decode cX8_mend 74 = .ok (.ireturn, 1) := by decide +kernel
theorem dX8_isAhead_0 : decode cX8_isAhead 0 = .ok (.aload_n 0, 1) := by decide +kernel
theorem dX8_isAhead_1 : decode cX8_isAhead 1 = .ok (.getfield 7, 3) := by decide +kernel
theorem dX8_isAhead_4 : decode cX8_isAhead 4 = .ok (.iload_n 1, 1) := by decide +kernel
theorem dX8_isAhead_5 : decode cX8_isAhead 5 = .ok (.iaload, 1) := by decide +kernel
theorem dX8_isAhead_6 : decode cX8_isAhead 6 = .ok (.aload_n 0, 1) := by decide +kernel
theorem dX8_isAhead_7 : decode cX8_isAhead 7 = .ok (.getfield 7, 3) := by decide +kernel
theorem dX8_isAhead_10 : decode cX8_isAhead 10 = .ok (.iload_n 2, 1) := by decide +kernel
theorem dX8_isAhead_11 : decode cX8_isAhead 11 = .ok (.iaload, 1) := by decide +kernel
theorem dX8_isAhead_12 : decode cX8_isAhead 12 = .ok (.if_icmp .lt 23, 3) := by decide +kernel
theorem dX8_isAhead_15 : decode cX8_isAhead 15 = .ok (.aload_n 0, 1) := by decide +kernel
theorem dX8_isAhead_16 : decode cX8_isAhead 16 = .ok (.getfield 7, 3) := by decide +kernel
theorem dX8_isAhead_19 : decode cX8_isAhead 19 = .ok (.iload_n 1, 1) := by decide +kernel
theorem dX8_isAhead_20 : decode cX8_isAhead 20 = .ok (.iaload, 1) := by decide +kernel
theorem dX8_isAhead_21 : decode cX8_isAhead 21 = .ok (.aload_n 0, 1) := by decide +kernel
theorem dX8_isAhead_22 : decode cX8_isAhead 22 = .ok (.getfield 7, 3) := by decide +kernel
theorem dX8_isAhead_25 : decode cX8_isAhead 25 = .ok (.iload_n 2, 1) := by decide +kernel
theorem dX8_isAhead_26 : decode cX8_isAhead 26 = .ok (.iaload, 1) := by decide +kernel
theorem dX8_isAhead_27 : decode cX8_isAhead 27 = .ok (.if_icmp .ne 12, 3) := by decide +kernel
theorem dX8_isAhead_30 : decode cX8_isAhead 30 = .ok (.iload_n 1, 1) := by decide +kernel
theorem dX8_isAhead_31 : decode cX8_isAhead 31 = .ok (.iload_n 2, 1) := by decide +kernel
theorem dX8_isAhead_32 : decode cX8_isAhead 32 = .ok (.if_icmp .ge 7, 3) := by decide +kernel
theorem dX8_isAhead_35 : decode cX8_isAhead 35 = .ok (.iconst 1, 1) := by decide +kernel
theorem dX8_isAhead_36 : decode cX8_isAhead 36 = .ok (.goto 4, 3) := by decide +kernel
theorem dX8_isAhead_39 : decode cX8_isAhead 39 = .ok (.iconst 0, 1) := by decide +kernel
theorem dX8_isAhead_40 : decode cX8_isAhead 40 = .ok (.ireturn, 1) := by decide +kernel
theorem dX8_placeOf_0 : decode cX8_placeOf 0 = .ok (.iconst 0, 1) := by decide +kernel
theorem dX8_placeOf_1 : decode cX8_placeOf 1 = .ok (.istore_n 2, 1) := by decide +kernel
theorem dX8_placeOf_2 : decode cX8_placeOf 2 = .ok (.iconst 0, 1) := by decide +kernel
theorem dX8_placeOf_3 : decode cX8_placeOf 3 = .ok (.istore_n 3, 1) := by decide +kernel
theorem dX8_placeOf_4 : decode cX8_placeOf 4 = .ok (.iload_n 3, 1) := by decide +kernel
theorem dX8_placeOf_5 : decode cX8_placeOf 5 = .ok (.aload_n 0, 1) := by decide +kernel
theorem dX8_placeOf_6 : decode cX8_placeOf 6 = .ok (.getfield 111, 3) := by decide +kernel
theorem dX8_placeOf_9 : decode cX8_placeOf 9 = .ok (.if_icmp .ge 21, 3) := by decide +kernel
theorem dX8_placeOf_12 : decode cX8_placeOf 12 = .ok (.aload_n 0, 1) := by decide +kernel
theorem dX8_placeOf_13 : decode cX8_placeOf 13 = .ok (.iload_n 3, 1) := by decide +kernel
theorem dX8_placeOf_14 : decode cX8_placeOf 14 = .ok (.iload_n 1, 1) := by decide +kernel
theorem dX8_placeOf_15 : decode cX8_placeOf 15 = .ok (.invokevirtual 168, 3) := by decide +kernel
theorem dX8_placeOf_18 : decode cX8_placeOf 18 = .ok (.ifCond .eq 6, 3) := by decide +kernel
theorem dX8_placeOf_21 : decode cX8_placeOf 21 = .ok (.iinc 2 1, 3) := by decide +kernel
theorem dX8_placeOf_24 : decode cX8_placeOf 24 = .ok (.iinc 3 1, 3) := by decide +kernel
theorem dX8_placeOf_27 : decode cX8_placeOf 27 = .ok (.goto (-23), 3) := by decide +kernel
theorem dX8_placeOf_30 : decode cX8_placeOf 30 = .ok (.iload_n 2, 1) := by decide +kernel
theorem dX8_placeOf_31 : decode cX8_placeOf 31 = .ok (.ireturn, 1) := by decide +kernel
theorem dX8_personAt_0 : decode cX8_personAt 0 = .ok (.iconst 0, 1) := by decide +kernel
theorem dX8_personAt_1 : decode cX8_personAt 1 = .ok (.istore_n 2, 1) := by decide +kernel
theorem dX8_personAt_2 : decode cX8_personAt 2 = .ok (.iload_n 2, 1) := by decide +kernel
theorem dX8_personAt_3 : decode cX8_personAt 3 = .ok (.aload_n 0, 1) := by decide +kernel
theorem dX8_personAt_4 : decode cX8_personAt 4 = .ok (.getfield 111, 3) := by decide +kernel
theorem dX8_personAt_7 : decode cX8_personAt 7 = .ok (.if_icmp .ge 20, 3) := by decide +kernel
theorem dX8_personAt_10 : decode cX8_personAt 10 = .ok (.aload_n 0, 1) := by decide +kernel
theorem dX8_personAt_11 : decode cX8_personAt 11 = .ok (.iload_n 2, 1) := by decide +kernel
theorem dX8_personAt_12 : decode cX8_personAt 12 = .ok (.invokevirtual 171, 3) := by decide +kernel
theorem dX8_personAt_15 : decode cX8_personAt 15 = .ok (.iload_n 1, 1) := by decide +kernel
theorem dX8_personAt_16 : decode cX8_personAt 16 = .ok (.if_icmp .ne 5, 3) := by decide +kernel
theorem dX8_personAt_19 : decode cX8_personAt 19 = .ok (.iload_n 2, 1) := by decide +kernel
theorem dX8_personAt_20 : decode cX8_personAt 20 = .ok (.ireturn, 1) := by decide +kernel
theorem dX8_personAt_21 : decode cX8_personAt 21 = .ok (.iinc 2 1, 3) := by decide +kernel
theorem dX8_personAt_24 : decode cX8_personAt 24 = .ok (.goto (-22), 3) := by decide +kernel
theorem dX8_personAt_27 : decode cX8_personAt 27 = .ok (.iconst (-1), 1) := by decide +kernel
theorem dX8_personAt_28 : decode cX8_personAt 28 = .ok (.ireturn, 1) := by decide +kernel
theorem dX8_counts_0 : decode cX8_counts 0 = .ok (.aload_n 0, 1) := by decide +kernel
theorem dX8_counts_1 : decode cX8_counts 1 = .ok (.aload_n 0, 1) := by decide +kernel
theorem dX8_counts_2 : decode cX8_counts 2 = .ok (.getfield 19, 3) := by decide +kernel
theorem dX8_counts_5 : decode cX8_counts 5 = .ok (.iload_n 1, 1) := by decide +kernel
theorem dX8_counts_6 : decode cX8_counts 6 = .ok (.iaload, 1) := by decide +kernel
theorem dX8_counts_7 : decode cX8_counts 7 = .ok (.aload_n 0, 1) := by decide +kernel
theorem dX8_counts_8 : decode cX8_counts 8 = .ok (.getfield 25, 3) := by decide +kernel
theorem dX8_counts_11 : decode cX8_counts 11 = .ok (.iload_n 1, 1) := by decide +kernel
theorem dX8_counts_12 : decode cX8_counts 12 = .ok (.iaload, 1) := by decide +kernel
theorem dX8_counts_13 : decode cX8_counts 13 = .ok (.invokevirtual 138, 3) := by decide +kernel
theorem dX8_counts_16 : decode cX8_counts 16 = .ok (.ifCond .eq 26, 3) := by decide +kernel
theorem dX8_counts_19 : decode cX8_counts 19 = .ok (.aload_n 0, 1) := by decide +kernel
theorem dX8_counts_20 : decode cX8_counts 20 = .ok (.aload_n 0, 1) := by decide +kernel
theorem dX8_counts_21 : decode cX8_counts 21 = .ok (.getfield 22, 3) := by decide +kernel
theorem dX8_counts_24 : decode cX8_counts 24 = .ok (.iload_n 1, 1) := by decide +kernel
theorem dX8_counts_25 : decode cX8_counts 25 = .ok (.iaload, 1) := by decide +kernel
theorem dX8_counts_26 : decode cX8_counts 26 = .ok (.aload_n 0, 1) := by decide +kernel
theorem dX8_counts_27 : decode cX8_counts 27 = .ok (.getfield 25, 3) := by decide +kernel
theorem dX8_counts_30 : decode cX8_counts 30 = .ok (.iload_n 1, 1) := by decide +kernel
theorem dX8_counts_31 : decode cX8_counts 31 = .ok (.iaload, 1) := by decide +kernel
theorem dX8_counts_32 : decode cX8_counts 32 = .ok (.invokevirtual 138, 3) := by decide +kernel
theorem dX8_counts_35 : decode cX8_counts 35 = .ok (.ifCond .eq 7, 3) := by decide +kernel
theorem dX8_counts_38 : decode cX8_counts 38 = .ok (.iconst 1, 1) := by decide +kernel
theorem dX8_counts_39 : decode cX8_counts 39 = .ok (.goto 4, 3) := by decide +kernel
theorem dX8_counts_42 : decode cX8_counts 42 = .ok (.iconst 0, 1) := by decide +kernel
theorem dX8_counts_43 : decode cX8_counts 43 = .ok (.ireturn, 1) := by decide +kernel
theorem dX8_bearersOf_0 : decode cX8_bearersOf 0 = .ok (.iconst 0, 1) := by decide +kernel
theorem dX8_bearersOf_1 : decode cX8_bearersOf 1 = .ok (.istore_n 2, 1) := by decide +kernel
theorem dX8_bearersOf_2 : decode cX8_bearersOf 2 = .ok (.iconst 0, 1) := by decide +kernel
theorem dX8_bearersOf_3 : decode cX8_bearersOf 3 = .ok (.istore_n 3, 1) := by decide +kernel
theorem dX8_bearersOf_4 : decode cX8_bearersOf 4 = .ok (.iload_n 3, 1) := by decide +kernel
theorem dX8_bearersOf_5 : decode cX8_bearersOf 5 = .ok (.aload_n 0, 1) := by decide +kernel
theorem dX8_bearersOf_6 : decode cX8_bearersOf 6 = .ok (.getfield 111, 3) := by decide +kernel
theorem dX8_bearersOf_9 : decode cX8_bearersOf 9 = .ok (.if_icmp .ge 25, 3) := by decide +kernel
theorem dX8_bearersOf_12 : decode cX8_bearersOf 12 = .ok (.aload_n 0, 1) := by decide +kernel
theorem dX8_bearersOf_13 : decode cX8_bearersOf 13 = .ok (.getfield 16, 3) := by decide +kernel
theorem dX8_bearersOf_16 : decode cX8_bearersOf 16 = .ok (.iload_n 3, 1) := by decide +kernel
theorem dX8_bearersOf_17 : decode cX8_bearersOf 17 = .ok (.iaload, 1) := by decide +kernel
theorem dX8_bearersOf_18 : decode cX8_bearersOf 18 = .ok (.iload_n 1, 1) := by decide +kernel
theorem dX8_bearersOf_19 : decode cX8_bearersOf 19 = .ok (.if_icmp .ne 9, 3) := by decide +kernel
theorem dX8_bearersOf_22 : decode cX8_bearersOf 22 = .ok (.iload_n 2, 1) := by decide +kernel
theorem dX8_bearersOf_23 : decode cX8_bearersOf 23 = .ok (.iconst 1, 1) := by decide +kernel
theorem dX8_bearersOf_24 : decode cX8_bearersOf 24 = .ok (.iload_n 3, 1) := by decide +kernel
theorem dX8_bearersOf_25 : decode cX8_bearersOf 25 = .ok (.ishl, 1) := by decide +kernel
theorem dX8_bearersOf_26 : decode cX8_bearersOf 26 = .ok (.ior, 1) := by decide +kernel
theorem dX8_bearersOf_27 : decode cX8_bearersOf 27 = .ok (.istore_n 2, 1) := by decide +kernel
theorem dX8_bearersOf_28 : decode cX8_bearersOf 28 = .ok (.iinc 3 1, 3) := by decide +kernel
theorem dX8_bearersOf_31 : decode cX8_bearersOf 31 = .ok (.goto (-27), 3) := by decide +kernel
theorem dX8_bearersOf_34 : decode cX8_bearersOf 34 = .ok (.iload_n 2, 1) := by decide +kernel
theorem dX8_bearersOf_35 : decode cX8_bearersOf 35 = .ok (.ireturn, 1) := by decide +kernel
theorem dX8_of_0 : decode cX8_of 0 = .ok (.iload_n 2, 1) := by decide +kernel
theorem dX8_of_1 : decode cX8_of 1 = .ok (.iconst 0, 1) := by decide +kernel
theorem dX8_of_2 : decode cX8_of 2 = .ok (.iconst 3, 1) := by decide +kernel
theorem dX8_of_3 : decode cX8_of 3 = .ok (.invokestatic 114, 3) := by decide +kernel
theorem dX8_of_6 : decode cX8_of 6 = .ok (.ifCond .eq 61, 3) := by decide +kernel
theorem dX8_of_9 : decode cX8_of 9 = .ok (.aload_n 0, 1) := by decide +kernel
theorem dX8_of_10 : decode cX8_of 10 = .ok (.iload_n 1, 1) := by decide +kernel
theorem dX8_of_11 : decode cX8_of 11 = .ok (.invokevirtual 135, 3) := by decide +kernel
theorem dX8_of_14 : decode cX8_of 14 = .ok (.ifCond .ne 6, 3) := by decide +kernel
theorem dX8_of_17 : decode cX8_of 17 = .ok (.ldc 147, 2) := by decide +kernel
theorem dX8_of_19 : decode cX8_of 19 = .ok (.ireturn, 1) := by decide +kernel
theorem dX8_of_20 : decode cX8_of 20 = .ok (.iload_n 2, 1) := by decide +kernel
theorem dX8_of_21 : decode cX8_of 21 = .ok (.ifCond .ne 12, 3) := by decide +kernel
theorem dX8_of_24 : decode cX8_of 24 = .ok (.aload_n 0, 1) := by decide +kernel
theorem dX8_of_25 : decode cX8_of 25 = .ok (.getfield 7, 3) := by decide +kernel
theorem dX8_of_28 : decode cX8_of 28 = .ok (.iload_n 1, 1) := by decide +kernel
theorem dX8_of_29 : decode cX8_of 29 = .ok (.iaload, 1) := by decide +kernel
theorem dX8_of_30 : decode cX8_of 30 = .ok (.goto 36, 3) := by decide +kernel
theorem dX8_of_33 : decode cX8_of 33 = .ok (.iload_n 2, 1) := by decide +kernel
theorem dX8_of_34 : decode cX8_of 34 = .ok (.iconst 1, 1) := by decide +kernel
theorem dX8_of_35 : decode cX8_of 35 = .ok (.if_icmp .ne 12, 3) := by decide +kernel
theorem dX8_of_38 : decode cX8_of 38 = .ok (.aload_n 0, 1) := by decide +kernel
theorem dX8_of_39 : decode cX8_of 39 = .ok (.getfield 13, 3) := by decide +kernel
theorem dX8_of_42 : decode cX8_of 42 = .ok (.iload_n 1, 1) := by decide +kernel
theorem dX8_of_43 : decode cX8_of 43 = .ok (.iaload, 1) := by decide +kernel
theorem dX8_of_44 : decode cX8_of 44 = .ok (.goto 22, 3) := by decide +kernel
theorem dX8_of_47 : decode cX8_of 47 = .ok (.iload_n 2, 1) := by decide +kernel
theorem dX8_of_48 : decode cX8_of 48 = .ok (.iconst 2, 1) := by decide +kernel
theorem dX8_of_49 : decode cX8_of 49 = .ok (.if_icmp .ne 12, 3) := by decide +kernel
theorem dX8_of_52 : decode cX8_of 52 = .ok (.aload_n 0, 1) := by decide +kernel
theorem dX8_of_53 : decode cX8_of 53 = .ok (.getfield 16, 3) := by decide +kernel
theorem dX8_of_56 : decode cX8_of 56 = .ok (.iload_n 1, 1) := by decide +kernel
theorem dX8_of_57 : decode cX8_of 57 = .ok (.iaload, 1) := by decide +kernel
theorem dX8_of_58 : decode cX8_of 58 = .ok (.goto 8, 3) := by decide +kernel
theorem dX8_of_61 : decode cX8_of 61 = .ok (.aload_n 0, 1) := by decide +kernel
theorem dX8_of_62 : decode cX8_of 62 = .ok (.iload_n 1, 1) := by decide +kernel
theorem dX8_of_63 : decode cX8_of 63 = .ok (.invokevirtual 171, 3) := by decide +kernel
theorem dX8_of_66 : decode cX8_of 66 = .ok (.ireturn, 1) := by decide +kernel
theorem dX8_of_67 : decode cX8_of 67 = .ok (.iload_n 2, 1) := by decide +kernel
theorem dX8_of_68 : decode cX8_of 68 = .ok (.bipush 10, 2) := by decide +kernel
theorem dX8_of_70 : decode cX8_of 70 = .ok (.bipush 12, 2) := by decide +kernel
theorem dX8_of_72 : decode cX8_of 72 = .ok (.invokestatic 114, 3) := by decide +kernel
theorem dX8_of_75 : decode cX8_of 75 = .ok (.ifCond .eq 51, 3) := by decide +kernel
theorem dX8_of_78 : decode cX8_of 78 = .ok (.iload_n 1, 1) := by decide +kernel
theorem dX8_of_79 : decode cX8_of 79 = .ok (.invokestatic 148, 3) := by decide +kernel
theorem dX8_of_82 : decode cX8_of 82 = .ok (.ifCond .ne 8, 3) := by decide +kernel
theorem dX8_of_85 : decode cX8_of 85 = .ok (.ldc 147, 2) := by decide +kernel
theorem dX8_of_87 : decode cX8_of 87 = .ok (.goto 38, 3) := by decide +kernel
theorem dX8_of_90 : decode cX8_of 90 = .ok (.iload_n 2, 1) := by decide +kernel
theorem dX8_of_91 : decode cX8_of 91 = .ok (.bipush 10, 2) := by decide +kernel
theorem dX8_of_93 : decode cX8_of 93 = .ok (.if_icmp .ne 12, 3) := by decide +kernel
theorem dX8_of_96 : decode cX8_of 96 = .ok (.aload_n 0, 1) := by decide +kernel
theorem dX8_of_97 : decode cX8_of 97 = .ok (.getfield 28, 3) := by decide +kernel
theorem dX8_of_100 : decode cX8_of 100 = .ok (.iload_n 1, 1) := by decide +kernel
theorem dX8_of_101 : decode cX8_of 101 = .ok (.iaload, 1) := by decide +kernel
theorem dX8_of_102 : decode cX8_of 102 = .ok (.goto 23, 3) := by decide +kernel
theorem dX8_of_105 : decode cX8_of 105 = .ok (.iload_n 2, 1) := by decide +kernel
theorem dX8_of_106 : decode cX8_of 106 = .ok (.bipush 11, 2) := by decide +kernel
theorem dX8_of_108 : decode cX8_of 108 = .ok (.if_icmp .ne 12, 3) := by decide +kernel
theorem dX8_of_111 : decode cX8_of 111 = .ok (.aload_n 0, 1) := by decide +kernel
theorem dX8_of_112 : decode cX8_of 112 = .ok (.getfield 31, 3) := by decide +kernel
theorem dX8_of_115 : decode cX8_of 115 = .ok (.iload_n 1, 1) := by decide +kernel
theorem dX8_of_116 : decode cX8_of 116 = .ok (.iaload, 1) := by decide +kernel
theorem dX8_of_117 : decode cX8_of 117 = .ok (.goto 8, 3) := by decide +kernel
theorem dX8_of_120 : decode cX8_of 120 = .ok (.aload_n 0, 1) := by decide +kernel
theorem dX8_of_121 : decode cX8_of 121 = .ok (.iload_n 1, 1) := by decide +kernel
theorem dX8_of_122 : decode cX8_of 122 = .ok (.invokevirtual 175, 3) := by decide +kernel
theorem dX8_of_125 : decode cX8_of 125 = .ok (.ireturn, 1) := by decide +kernel
theorem dX8_of_126 : decode cX8_of 126 = .ok (.iload_n 2, 1) := by decide +kernel
theorem dX8_of_127 : decode cX8_of 127 = .ok (.bipush 20, 2) := by decide +kernel
theorem dX8_of_129 : decode cX8_of 129 = .ok (.bipush 22, 2) := by decide +kernel
theorem dX8_of_131 : decode cX8_of 131 = .ok (.invokestatic 114, 3) := by decide +kernel
theorem dX8_of_134 : decode cX8_of 134 = .ok (.ifCond .eq 17, 3) := by decide +kernel
theorem dX8_of_137 : decode cX8_of 137 = .ok (.iload_n 1, 1) := by decide +kernel
theorem dX8_of_138 : decode cX8_of 138 = .ok (.iconst 0, 1) := by decide +kernel
theorem dX8_of_139 : decode cX8_of 139 = .ok (.aload_n 0, 1) := by decide +kernel
theorem dX8_of_140 : decode cX8_of 140 = .ok (.getfield 141, 3) := by decide +kernel
theorem dX8_of_143 : decode cX8_of 143 = .ok (.iconst 1, 1) := by decide +kernel
theorem dX8_of_144 : decode cX8_of 144 = .ok (.isub, 1) := by decide +kernel
theorem dX8_of_145 : decode cX8_of 145 = .ok (.invokestatic 114, 3) := by decide +kernel
theorem dX8_of_148 : decode cX8_of 148 = .ok (.ifCond .ne 6, 3) := by decide +kernel
theorem dX8_of_151 : decode cX8_of 151 = .ok (.ldc 147, 2) := by decide +kernel
theorem dX8_of_153 : decode cX8_of 153 = .ok (.ireturn, 1) := by decide +kernel
theorem dX8_of_154 : decode cX8_of 154 = .ok (.iload_n 2, 1) := by decide +kernel
theorem dX8_of_155 : decode cX8_of 155 = .ok (.bipush 20, 2) := by decide +kernel
theorem dX8_of_157 : decode cX8_of 157 = .ok (.if_icmp .ne 22, 3) := by decide +kernel
theorem dX8_of_160 : decode cX8_of 160 = .ok (.bipush 100, 2) := by decide +kernel
theorem dX8_of_162 : decode cX8_of 162 = .ok (.aload_n 0, 1) := by decide +kernel
theorem dX8_of_163 : decode cX8_of 163 = .ok (.getfield 19, 3) := by decide +kernel
theorem dX8_of_166 : decode cX8_of 166 = .ok (.iload_n 1, 1) := by decide +kernel
theorem dX8_of_167 : decode cX8_of 167 = .ok (.iaload, 1) := by decide +kernel
theorem dX8_of_168 : decode cX8_of 168 = .ok (.imul, 1) := by decide +kernel
theorem dX8_of_169 : decode cX8_of 169 = .ok (.aload_n 0, 1) := by decide +kernel
theorem dX8_of_170 : decode cX8_of 170 = .ok (.getfield 22, 3) := by decide +kernel
theorem dX8_of_173 : decode cX8_of 173 = .ok (.iload_n 1, 1) := by decide +kernel
theorem dX8_of_174 : decode cX8_of 174 = .ok (.iaload, 1) := by decide +kernel
theorem dX8_of_175 : decode cX8_of 175 = .ok (.iadd, 1) := by decide +kernel
theorem dX8_of_176 : decode cX8_of 176 = .ok (.goto 31, 3) := by decide +kernel
theorem dX8_of_179 : decode cX8_of 179 = .ok (.iload_n 2, 1) := by decide +kernel
theorem dX8_of_180 : decode cX8_of 180 = .ok (.bipush 21, 2) := by decide +kernel
theorem dX8_of_182 : decode cX8_of 182 = .ok (.if_icmp .ne 12, 3) := by decide +kernel
theorem dX8_of_185 : decode cX8_of 185 = .ok (.aload_n 0, 1) := by decide +kernel
theorem dX8_of_186 : decode cX8_of 186 = .ok (.getfield 25, 3) := by decide +kernel
theorem dX8_of_189 : decode cX8_of 189 = .ok (.iload_n 1, 1) := by decide +kernel
theorem dX8_of_190 : decode cX8_of 190 = .ok (.iaload, 1) := by decide +kernel
theorem dX8_of_191 : decode cX8_of 191 = .ok (.goto 16, 3) := by decide +kernel
theorem dX8_of_194 : decode cX8_of 194 = .ok (.aload_n 0, 1) := by decide +kernel
theorem dX8_of_195 : decode cX8_of 195 = .ok (.iload_n 1, 1) := by decide +kernel
theorem dX8_of_196 : decode cX8_of 196 = .ok (.invokevirtual 178, 3) := by decide +kernel
theorem dX8_of_199 : decode cX8_of 199 = .ok (.ifCond .eq 7, 3) := by decide +kernel
theorem dX8_of_202 : decode cX8_of 202 = .ok (.iconst 1, 1) := by decide +kernel
theorem dX8_of_203 : decode cX8_of 203 = .ok (.goto 4, 3) := by decide +kernel
theorem dX8_of_206 : decode cX8_of 206 = .ok (.iconst 0, 1) := by decide +kernel
theorem dX8_of_207 : decode cX8_of 207 = .ok (.ireturn, 1) := by decide +kernel
theorem dX8_feed_0 : decode cX8_feed 0 = .ok (.iload_n 1, 1) := by decide +kernel
theorem dX8_feed_1 : decode cX8_feed 1 = .ok (.iconst 0, 1) := by decide +kernel
theorem dX8_feed_2 : decode cX8_feed 2 = .ok (.sipush 255, 3) := by decide +kernel
theorem dX8_feed_5 : decode cX8_feed 5 = .ok (.invokestatic 114, 3) := by decide +kernel
theorem dX8_feed_8 : decode cX8_feed 8 = .ok (.ifCond .ne 5, 3) := by decide +kernel
theorem dX8_feed_11 : decode cX8_feed 11 = .ok (.iconst (-1), 1) := by decide +kernel
theorem dX8_feed_12 : decode cX8_feed 12 = .ok (.ireturn, 1) := by decide +kernel
theorem dX8_feed_13 : decode cX8_feed 13 = .ok (.aload_n 0, 1) := by decide +kernel
theorem dX8_feed_14 : decode cX8_feed 14 = .ok (.getfield 181, 3) := by decide +kernel
theorem dX8_feed_17 : decode cX8_feed 17 = .ok (.bipush 120, 2) := by decide +kernel
theorem dX8_feed_19 : decode cX8_feed 19 = .ok (.if_icmp .ne 6, 3) := by decide +kernel
theorem dX8_feed_22 : decode cX8_feed 22 = .ok (.bipush (-3), 2) := by decide +kernel
theorem dX8_feed_24 : decode cX8_feed 24 = .ok (.ireturn, 1) := by decide +kernel
theorem dX8_feed_25 : decode cX8_feed 25 = .ok (.aload_n 0, 1) := by decide +kernel
theorem dX8_feed_26 : decode cX8_feed 26 = .ok (.getfield 46, 3) := by decide +kernel
theorem dX8_feed_29 : decode cX8_feed 29 = .ok (.aload_n 0, 1) := by decide +kernel
theorem dX8_feed_30 : decode cX8_feed 30 = .ok (.getfield 181, 3) := by decide +kernel
theorem dX8_feed_33 : decode cX8_feed 33 = .ok (.iload_n 1, 1) := by decide +kernel
theorem dX8_feed_34 : decode cX8_feed 34 = .ok (.i2b, 1) := by decide +kernel
theorem dX8_feed_35 : decode cX8_feed 35 = .ok (.bastore, 1) := by decide +kernel
theorem dX8_feed_36 : decode cX8_feed 36 = .ok (.aload_n 0, 1) := by decide +kernel
theorem dX8_feed_37 : decode cX8_feed 37 = .ok (.dup, 1) := by decide +kernel
theorem dX8_feed_38 : decode cX8_feed 38 = .ok (.getfield 181, 3) := by decide +kernel
theorem dX8_feed_41 : decode cX8_feed 41 = .ok (.iconst 1, 1) := by decide +kernel
theorem dX8_feed_42 : decode cX8_feed 42 = .ok (.iadd, 1) := by decide +kernel
theorem dX8_feed_43 : decode cX8_feed 43 = .ok (.putfield 181, 3) := by decide +kernel
theorem dX8_feed_46 : decode cX8_feed 46 = .ok (.aload_n 0, 1) := by decide +kernel
theorem dX8_feed_47 : decode cX8_feed 47 = .ok (.getfield 181, 3) := by decide +kernel
theorem dX8_feed_50 : decode cX8_feed 50 = .ok (.ireturn, 1) := by decide +kernel
theorem dX8_look_0 : decode cX8_look 0 = .ok (.aload_n 0, 1) := by decide +kernel
theorem dX8_look_1 : decode cX8_look 1 = .ok (.getfield 184, 3) := by decide +kernel
theorem dX8_look_4 : decode cX8_look 4 = .ok (.aload_n 0, 1) := by decide +kernel
theorem dX8_look_5 : decode cX8_look 5 = .ok (.getfield 181, 3) := by decide +kernel
theorem dX8_look_8 : decode cX8_look 8 = .ok (.if_icmp .ge 15, 3) := by decide +kernel
theorem dX8_look_11 : decode cX8_look 11 = .ok (.aload_n 0, 1) := by decide +kernel
theorem dX8_look_12 : decode cX8_look 12 = .ok (.getfield 46, 3) := by decide +kernel
theorem dX8_look_15 : decode cX8_look 15 = .ok (.aload_n 0, 1) := by decide +kernel
theorem dX8_look_16 : decode cX8_look 16 = .ok (.getfield 184, 3) := by decide +kernel
theorem dX8_look_19 : decode cX8_look 19 = .ok (.baload, 1) := by decide +kernel
theorem dX8_look_20 : decode cX8_look 20 = .ok (.goto 4, 3) := by decide +kernel
theorem dX8_look_23 : decode cX8_look 23 = .ok (.iconst (-1), 1) := by decide +kernel
theorem dX8_look_24 : decode cX8_look 24 = .ok (.ireturn, 1) := by decide +kernel
theorem dX8_faulty_0 : decode cX8_faulty 0 = .ok (.aload_n 0, 1) := by decide +kernel
theorem dX8_faulty_1 : decode cX8_faulty 1 = .ok (.getfield 187, 3) := by decide +kernel
theorem dX8_faulty_4 : decode cX8_faulty 4 = .ok (.ifCond .ge 11, 3) := by decide +kernel
theorem dX8_faulty_7 : decode cX8_faulty 7 = .ok (.aload_n 0, 1) := by decide +kernel
theorem dX8_faulty_8 : decode cX8_faulty 8 = .ok (.aload_n 0, 1) := by decide +kernel
theorem dX8_faulty_9 : decode cX8_faulty 9 = .ok (.getfield 184, 3) := by decide +kernel
theorem dX8_faulty_12 : decode cX8_faulty 12 = .ok (.putfield 187, 3) := by decide +kernel
theorem dX8_faulty_15 : decode cX8_faulty 15 = .ok (.return_, 1) := by decide +kernel
theorem dX8_addStep_0 : decode cX8_addStep 0 = .ok (.aload_n 0, 1) := by decide +kernel
theorem dX8_addStep_1 : decode cX8_addStep 1 = .ok (.getfield 50, 3) := by decide +kernel
theorem dX8_addStep_4 : decode cX8_addStep 4 = .ok (.sipush 130, 3) := by decide +kernel
theorem dX8_addStep_7 : decode cX8_addStep 7 = .ok (.aload_n 0, 1) := by decide +kernel
theorem dX8_addStep_8 : decode cX8_addStep 8 = .ok (.getfield 190, 3) := by decide +kernel
theorem dX8_addStep_11 : decode cX8_addStep 11 = .ok (.iadd, 1) := by decide +kernel
theorem dX8_addStep_12 : decode cX8_addStep 12 = .ok (.iload_n 1, 1) := by decide +kernel
theorem dX8_addStep_13 : decode cX8_addStep 13 = .ok (.i2b, 1) := by decide +kernel
theorem dX8_addStep_14 : decode cX8_addStep 14 = .ok (.bastore, 1) := by decide +kernel
theorem dX8_addStep_15 : decode cX8_addStep 15 = .ok (.aload_n 0, 1) := by decide +kernel
theorem dX8_addStep_16 : decode cX8_addStep 16 = .ok (.getfield 53, 3) := by decide +kernel
theorem dX8_addStep_19 : decode cX8_addStep 19 = .ok (.sipush 130, 3) := by decide +kernel
theorem dX8_addStep_22 : decode cX8_addStep 22 = .ok (.aload_n 0, 1) := by decide +kernel
theorem dX8_addStep_23 : decode cX8_addStep 23 = .ok (.getfield 190, 3) := by decide +kernel
theorem dX8_addStep_26 : decode cX8_addStep 26 = .ok (.iadd, 1) := by decide +kernel
theorem dX8_addStep_27 : decode cX8_addStep 27 = .ok (.iload_n 2, 1) := by decide +kernel
theorem dX8_addStep_28 : decode cX8_addStep 28 = .ok (.iastore, 1) := by decide +kernel
theorem dX8_addStep_29 : decode cX8_addStep 29 = .ok (.aload_n 0, 1) := by decide +kernel
theorem dX8_addStep_30 : decode cX8_addStep 30 = .ok (.dup, 1) := by decide +kernel
theorem dX8_addStep_31 : decode cX8_addStep 31 = .ok (.getfield 190, 3) := by decide +kernel
theorem dX8_addStep_34 : decode cX8_addStep 34 = .ok (.iconst 1, 1) := by decide +kernel
theorem dX8_addStep_35 : decode cX8_addStep 35 = .ok (.iadd, 1) := by decide +kernel
theorem dX8_addStep_36 : decode cX8_addStep 36 = .ok (.putfield 190, 3) := by decide +kernel
theorem dX8_addStep_39 : decode cX8_addStep 39 = .ok (.return_, 1) := by decide +kernel
theorem dX8_nameOf_0 : decode cX8_nameOf 0 = .ok (.iload_n 0, 1) := by decide +kernel
theorem dX8_nameOf_1 : decode cX8_nameOf 1 = .ok (.lookupswitch 71 #[(97, 59), (100, 61), (102, 63), (105, 67), (110, 69), (119, 65)], 59) := by decide +kernel
theorem dX8_nameOf_60 : decode cX8_nameOf 60 = .ok (.iconst 0, 1) := by decide +kernel
theorem dX8_nameOf_61 : decode cX8_nameOf 61 = .ok (.ireturn, 1) := by decide +kernel
theorem dX8_nameOf_62 : decode cX8_nameOf 62 = .ok (.iconst 1, 1) := by decide +kernel
theorem dX8_nameOf_63 : decode cX8_nameOf 63 = .ok (.ireturn, 1) := by decide +kernel
theorem dX8_nameOf_64 : decode cX8_nameOf 64 = .ok (.iconst 2, 1) := by decide +kernel
theorem dX8_nameOf_65 : decode cX8_nameOf 65 = .ok (.ireturn, 1) := by decide +kernel
theorem dX8_nameOf_66 : decode cX8_nameOf 66 = .ok (.iconst 3, 1) := by decide +kernel
theorem dX8_nameOf_67 : decode cX8_nameOf 67 = .ok (.ireturn, 1) := by decide +kernel
theorem dX8_nameOf_68 : decode cX8_nameOf 68 = .ok (.iconst 4, 1) := by decide +kernel
theorem dX8_nameOf_69 : decode cX8_nameOf 69 = .ok (.ireturn, 1) := by decide +kernel
theorem dX8_nameOf_70 : decode cX8_nameOf 70 = .ok (.iconst 5, 1) := by decide +kernel
theorem dX8_nameOf_71 : decode cX8_nameOf 71 = .ok (.ireturn, 1) := by decide +kernel
theorem dX8_nameOf_72 : decode cX8_nameOf 72 = .ok (.iconst (-1), 1) := by decide +kernel
theorem dX8_nameOf_73 : decode cX8_nameOf 73 = .ok (.ireturn, 1) := by decide +kernel
theorem dX8_opens_0 : decode cX8_opens 0 = .ok (.aload_n 0, 1) := by decide +kernel
theorem dX8_opens_1 : decode cX8_opens 1 = .ok (.getfield 193, 3) := by decide +kernel
theorem dX8_opens_4 : decode cX8_opens 4 = .ok (.bipush 6, 2) := by decide +kernel
theorem dX8_opens_6 : decode cX8_opens 6 = .ok (.if_icmp .ne 9, 3) := by decide +kernel
theorem dX8_opens_9 : decode cX8_opens 9 = .ok (.aload_n 0, 1) := by decide +kernel
theorem dX8_opens_10 : decode cX8_opens 10 = .ok (.invokevirtual 196, 3) := by decide +kernel
theorem dX8_opens_13 : decode cX8_opens 13 = .ok (.iconst 0, 1) := by decide +kernel
theorem dX8_opens_14 : decode cX8_opens 14 = .ok (.ireturn, 1) := by decide +kernel
theorem dX8_opens_15 : decode cX8_opens 15 = .ok (.aload_n 0, 1) := by decide +kernel
theorem dX8_opens_16 : decode cX8_opens 16 = .ok (.dup, 1) := by decide +kernel
theorem dX8_opens_17 : decode cX8_opens 17 = .ok (.getfield 193, 3) := by decide +kernel
theorem dX8_opens_20 : decode cX8_opens 20 = .ok (.iconst 1, 1) := by decide +kernel
theorem dX8_opens_21 : decode cX8_opens 21 = .ok (.iadd, 1) := by decide +kernel
theorem dX8_opens_22 : decode cX8_opens 22 = .ok (.putfield 193, 3) := by decide +kernel
theorem dX8_opens_25 : decode cX8_opens 25 = .ok (.aload_n 0, 1) := by decide +kernel
theorem dX8_opens_26 : decode cX8_opens 26 = .ok (.dup, 1) := by decide +kernel
theorem dX8_opens_27 : decode cX8_opens 27 = .ok (.getfield 184, 3) := by decide +kernel
theorem dX8_opens_30 : decode cX8_opens 30 = .ok (.iconst 1, 1) := by decide +kernel
theorem dX8_opens_31 : decode cX8_opens 31 = .ok (.iadd, 1) := by decide +kernel
theorem dX8_opens_32 : decode cX8_opens 32 = .ok (.putfield 184, 3) := by decide +kernel
theorem dX8_opens_35 : decode cX8_opens 35 = .ok (.iconst 1, 1) := by decide +kernel
theorem dX8_opens_36 : decode cX8_opens 36 = .ok (.ireturn, 1) := by decide +kernel
theorem dX8_figure_0 : decode cX8_figure 0 = .ok (.iconst 0, 1) := by decide +kernel
theorem dX8_figure_1 : decode cX8_figure 1 = .ok (.istore_n 1, 1) := by decide +kernel
theorem dX8_figure_2 : decode cX8_figure 2 = .ok (.iconst 0, 1) := by decide +kernel
theorem dX8_figure_3 : decode cX8_figure 3 = .ok (.istore_n 2, 1) := by decide +kernel
theorem dX8_figure_4 : decode cX8_figure 4 = .ok (.iload_n 2, 1) := by decide +kernel
theorem dX8_figure_5 : decode cX8_figure 5 = .ok (.iconst 4, 1) := by decide +kernel
theorem dX8_figure_6 : decode cX8_figure 6 = .ok (.if_icmp .ge 46, 3) := by decide +kernel
theorem dX8_figure_9 : decode cX8_figure 9 = .ok (.aload_n 0, 1) := by decide +kernel
theorem dX8_figure_10 : decode cX8_figure 10 = .ok (.invokevirtual 199, 3) := by decide +kernel
theorem dX8_figure_13 : decode cX8_figure 13 = .ok (.bipush 48, 2) := by decide +kernel
theorem dX8_figure_15 : decode cX8_figure 15 = .ok (.bipush 57, 2) := by decide +kernel
theorem dX8_figure_17 : decode cX8_figure 17 = .ok (.invokestatic 114, 3) := by decide +kernel
theorem dX8_figure_20 : decode cX8_figure 20 = .ok (.ifCond .eq 32, 3) := by decide +kernel
theorem dX8_figure_23 : decode cX8_figure 23 = .ok (.bipush 10, 2) := by decide +kernel
theorem dX8_figure_25 : decode cX8_figure 25 = .ok (.iload_n 1, 1) := by decide +kernel
theorem dX8_figure_26 : decode cX8_figure 26 = .ok (.imul, 1) := by decide +kernel
theorem dX8_figure_27 : decode cX8_figure 27 = .ok (.aload_n 0, 1) := by decide +kernel
theorem dX8_figure_28 : decode cX8_figure 28 = .ok (.invokevirtual 199, 3) := by decide +kernel
theorem dX8_figure_31 : decode cX8_figure 31 = .ok (.iadd, 1) := by decide +kernel
theorem dX8_figure_32 : decode cX8_figure 32 = .ok (.bipush 48, 2) := by decide +kernel
theorem dX8_figure_34 : decode cX8_figure 34 = .ok (.isub, 1) := by decide +kernel
theorem dX8_figure_35 : decode cX8_figure 35 = .ok (.istore_n 1, 1) := by decide +kernel
theorem dX8_figure_36 : decode cX8_figure 36 = .ok (.iinc 2 1, 3) := by decide +kernel
theorem dX8_figure_39 : decode cX8_figure 39 = .ok (.aload_n 0, 1) := by decide +kernel
theorem dX8_figure_40 : decode cX8_figure 40 = .ok (.dup, 1) := by decide +kernel
theorem dX8_figure_41 : decode cX8_figure 41 = .ok (.getfield 184, 3) := by decide +kernel
theorem dX8_figure_44 : decode cX8_figure 44 = .ok (.iconst 1, 1) := by decide +kernel
theorem dX8_figure_45 : decode cX8_figure 45 = .ok (.iadd, 1) := by decide +kernel
theorem dX8_figure_46 : decode cX8_figure 46 = .ok (.putfield 184, 3) := by decide +kernel
theorem dX8_figure_49 : decode cX8_figure 49 = .ok (.goto (-45), 3) := by decide +kernel
theorem dX8_figure_52 : decode cX8_figure 52 = .ok (.iload_n 2, 1) := by decide +kernel
theorem dX8_figure_53 : decode cX8_figure 53 = .ok (.ifCond .eq 17, 3) := by decide +kernel
theorem dX8_figure_56 : decode cX8_figure 56 = .ok (.aload_n 0, 1) := by decide +kernel
theorem dX8_figure_57 : decode cX8_figure 57 = .ok (.invokevirtual 199, 3) := by decide +kernel
theorem dX8_figure_60 : decode cX8_figure 60 = .ok (.bipush 48, 2) := by decide +kernel
theorem dX8_figure_62 : decode cX8_figure 62 = .ok (.bipush 57, 2) := by decide +kernel
theorem dX8_figure_64 : decode cX8_figure 64 = .ok (.invokestatic 114, 3) := by decide +kernel
theorem dX8_figure_67 : decode cX8_figure 67 = .ok (.ifCond .eq 7, 3) := by decide +kernel
theorem dX8_figure_70 : decode cX8_figure 70 = .ok (.aload_n 0, 1) := by decide +kernel
theorem dX8_figure_71 : decode cX8_figure 71 = .ok (.invokevirtual 196, 3) := by decide +kernel
theorem dX8_figure_74 : decode cX8_figure 74 = .ok (.aload_n 0, 1) := by decide +kernel
theorem dX8_figure_75 : decode cX8_figure 75 = .ok (.iconst 1, 1) := by decide +kernel
theorem dX8_figure_76 : decode cX8_figure 76 = .ok (.iload_n 1, 1) := by decide +kernel
theorem dX8_figure_77 : decode cX8_figure 77 = .ok (.invokevirtual 203, 3) := by decide +kernel
theorem dX8_figure_80 : decode cX8_figure 80 = .ok (.return_, 1) := by decide +kernel
theorem dX8_operand_0 : decode cX8_operand 0 = .ok (.aload_n 0, 1) := by decide +kernel
theorem dX8_operand_1 : decode cX8_operand 1 = .ok (.invokevirtual 199, 3) := by decide +kernel
theorem dX8_operand_4 : decode cX8_operand 4 = .ok (.istore_n 1, 1) := by decide +kernel
theorem dX8_operand_5 : decode cX8_operand 5 = .ok (.iload_n 1, 1) := by decide +kernel
theorem dX8_operand_6 : decode cX8_operand 6 = .ok (.invokestatic 207, 3) := by decide +kernel
theorem dX8_operand_9 : decode cX8_operand 9 = .ok (.ifCond .lt 25, 3) := by decide +kernel
theorem dX8_operand_12 : decode cX8_operand 12 = .ok (.aload_n 0, 1) := by decide +kernel
theorem dX8_operand_13 : decode cX8_operand 13 = .ok (.iconst 2, 1) := by decide +kernel
theorem dX8_operand_14 : decode cX8_operand 14 = .ok (.iload_n 1, 1) := by decide +kernel
theorem dX8_operand_15 : decode cX8_operand 15 = .ok (.invokestatic 207, 3) := by decide +kernel
theorem dX8_operand_18 : decode cX8_operand 18 = .ok (.invokevirtual 203, 3) := by decide +kernel
theorem dX8_operand_21 : decode cX8_operand 21 = .ok (.aload_n 0, 1) := by decide +kernel
theorem dX8_operand_22 : decode cX8_operand 22 = .ok (.dup, 1) := by decide +kernel
theorem dX8_operand_23 : decode cX8_operand 23 = .ok (.getfield 184, 3) := by decide +kernel
theorem dX8_operand_26 : decode cX8_operand 26 = .ok (.iconst 1, 1) := by decide +kernel
theorem dX8_operand_27 : decode cX8_operand 27 = .ok (.iadd, 1) := by decide +kernel
theorem dX8_operand_28 : decode cX8_operand 28 = .ok (.putfield 184, 3) := by decide +kernel
theorem dX8_operand_31 : decode cX8_operand 31 = .ok (.goto 123, 3) := by decide +kernel
theorem dX8_operand_34 : decode cX8_operand 34 = .ok (.iload_n 1, 1) := by decide +kernel
theorem dX8_operand_35 : decode cX8_operand 35 = .ok (.bipush 33, 2) := by decide +kernel
theorem dX8_operand_37 : decode cX8_operand 37 = .ok (.if_icmp .eq 9, 3) := by decide +kernel
theorem dX8_operand_40 : decode cX8_operand 40 = .ok (.iload_n 1, 1) := by decide +kernel
theorem dX8_operand_41 : decode cX8_operand 41 = .ok (.bipush 45, 2) := by decide +kernel
theorem dX8_operand_43 : decode cX8_operand 43 = .ok (.if_icmp .ne 44, 3) := by decide +kernel
theorem dX8_operand_46 : decode cX8_operand 46 = .ok (.aload_n 0, 1) := by decide +kernel
theorem dX8_operand_47 : decode cX8_operand 47 = .ok (.invokevirtual 210, 3) := by decide +kernel
theorem dX8_operand_50 : decode cX8_operand 50 = .ok (.ifCond .ne 4, 3) := by decide +kernel
theorem dX8_operand_53 : decode cX8_operand 53 = .ok (.return_, 1) := by decide +kernel
theorem dX8_operand_54 : decode cX8_operand 54 = .ok (.aload_n 0, 1) := by decide +kernel
theorem dX8_operand_55 : decode cX8_operand 55 = .ok (.invokevirtual 214, 3) := by decide +kernel
theorem dX8_operand_58 : decode cX8_operand 58 = .ok (.aload_n 0, 1) := by decide +kernel
theorem dX8_operand_59 : decode cX8_operand 59 = .ok (.dup, 1) := by decide +kernel
theorem dX8_operand_60 : decode cX8_operand 60 = .ok (.getfield 193, 3) := by decide +kernel
theorem dX8_operand_63 : decode cX8_operand 63 = .ok (.iconst 1, 1) := by decide +kernel
theorem dX8_operand_64 : decode cX8_operand 64 = .ok (.isub, 1) := by decide +kernel
theorem dX8_operand_65 : decode cX8_operand 65 = .ok (.putfield 193, 3) := by decide +kernel
theorem dX8_operand_68 : decode cX8_operand 68 = .ok (.aload_n 0, 1) := by decide +kernel
theorem dX8_operand_69 : decode cX8_operand 69 = .ok (.iload_n 1, 1) := by decide +kernel
theorem dX8_operand_70 : decode cX8_operand 70 = .ok (.bipush 33, 2) := by decide +kernel
theorem dX8_operand_72 : decode cX8_operand 72 = .ok (.if_icmp .ne 7, 3) := by decide +kernel
theorem dX8_operand_75 : decode cX8_operand 75 = .ok (.iconst 3, 1) := by decide +kernel
theorem dX8_operand_76 : decode cX8_operand 76 = .ok (.goto 4, 3) := by decide +kernel
theorem dX8_operand_79 : decode cX8_operand 79 = .ok (.iconst 4, 1) := by decide +kernel
theorem dX8_operand_80 : decode cX8_operand 80 = .ok (.iconst 0, 1) := by decide +kernel
theorem dX8_operand_81 : decode cX8_operand 81 = .ok (.invokevirtual 203, 3) := by decide +kernel
theorem dX8_operand_84 : decode cX8_operand 84 = .ok (.goto 70, 3) := by decide +kernel
theorem dX8_operand_87 : decode cX8_operand 87 = .ok (.iload_n 1, 1) := by decide +kernel
theorem dX8_operand_88 : decode cX8_operand 88 = .ok (.bipush 40, 2) := by decide +kernel
theorem dX8_operand_90 : decode cX8_operand 90 = .ok (.if_icmp .ne 60, 3) := by decide +kernel
theorem dX8_operand_93 : decode cX8_operand 93 = .ok (.aload_n 0, 1) := by decide +kernel
theorem dX8_operand_94 : decode cX8_operand 94 = .ok (.invokevirtual 210, 3) := by decide +kernel
theorem dX8_operand_97 : decode cX8_operand 97 = .ok (.ifCond .ne 4, 3) := by decide +kernel
theorem dX8_operand_100 : decode cX8_operand 100 = .ok (.return_, 1) := by decide +kernel
theorem dX8_operand_101 : decode cX8_operand 101 = .ok (.aload_n 0, 1) := by decide +kernel
theorem dX8_operand_102 : decode cX8_operand 102 = .ok (.invokevirtual 217, 3) := by decide +kernel
theorem dX8_operand_105 : decode cX8_operand 105 = .ok (.aload_n 0, 1) := by decide +kernel
theorem dX8_operand_106 : decode cX8_operand 106 = .ok (.getfield 187, 3) := by decide +kernel
theorem dX8_operand_109 : decode cX8_operand 109 = .ok (.ifCond .lt 4, 3) := by decide +kernel
theorem dX8_operand_112 : decode cX8_operand 112 = .ok (.return_, 1) := by decide +kernel
theorem dX8_operand_113 : decode cX8_operand 113 = .ok (.aload_n 0, 1) := by decide +kernel
theorem dX8_operand_114 : decode cX8_operand 114 = .ok (.invokevirtual 199, 3) := by decide +kernel
theorem dX8_operand_117 : decode cX8_operand 117 = .ok (.bipush 41, 2) := by decide +kernel
theorem dX8_operand_119 : decode cX8_operand 119 = .ok (.if_icmp .eq 8, 3) := by decide +kernel
theorem dX8_operand_122 : decode cX8_operand 122 = .ok (.aload_n 0, 1) := by decide +kernel
theorem dX8_operand_123 : decode cX8_operand 123 = .ok (.invokevirtual 196, 3) := by decide +kernel
theorem dX8_operand_126 : decode cX8_operand 126 = .ok (.return_, 1) := by decide +kernel
theorem dX8_operand_127 : decode cX8_operand 127 = .ok (.aload_n 0, 1) := by decide +kernel
theorem dX8_operand_128 : decode cX8_operand 128 = .ok (.dup, 1) := by decide +kernel
theorem dX8_operand_129 : decode cX8_operand 129 = .ok (.getfield 184, 3) := by decide +kernel
theorem dX8_operand_132 : decode cX8_operand 132 = .ok (.iconst 1, 1) := by decide +kernel
theorem dX8_operand_133 : decode cX8_operand 133 = .ok (.iadd, 1) := by decide +kernel
theorem dX8_operand_134 : decode cX8_operand 134 = .ok (.putfield 184, 3) := by decide +kernel
theorem dX8_operand_137 : decode cX8_operand 137 = .ok (.aload_n 0, 1) := by decide +kernel
theorem dX8_operand_138 : decode cX8_operand 138 = .ok (.dup, 1) := by decide +kernel
theorem dX8_operand_139 : decode cX8_operand 139 = .ok (.getfield 193, 3) := by decide +kernel
theorem dX8_operand_142 : decode cX8_operand 142 = .ok (.iconst 1, 1) := by decide +kernel
theorem dX8_operand_143 : decode cX8_operand 143 = .ok (.isub, 1) := by decide +kernel
theorem dX8_operand_144 : decode cX8_operand 144 = .ok (.putfield 193, 3) := by decide +kernel
theorem dX8_operand_147 : decode cX8_operand 147 = .ok (.goto 7, 3) := by decide +kernel
theorem dX8_operand_150 : decode cX8_operand 150 = .ok (.aload_n 0, 1) := by decide +kernel
theorem dX8_operand_151 : decode cX8_operand 151 = .ok (.invokevirtual 220, 3) := by decide +kernel
theorem dX8_operand_154 : decode cX8_operand 154 = .ok (.return_, 1) := by decide +kernel
theorem dX8_product_0 : decode cX8_product 0 = .ok (.aload_n 0, 1) := by decide +kernel
theorem dX8_product_1 : decode cX8_product 1 = .ok (.invokevirtual 214, 3) := by decide +kernel
theorem dX8_product_4 : decode cX8_product 4 = .ok (.aload_n 0, 1) := by decide +kernel
theorem dX8_product_5 : decode cX8_product 5 = .ok (.getfield 187, 3) := by decide +kernel
theorem dX8_product_8 : decode cX8_product 8 = .ok (.ifCond .ge 58, 3) := by decide +kernel
theorem dX8_product_11 : decode cX8_product 11 = .ok (.aload_n 0, 1) := by decide +kernel
theorem dX8_product_12 : decode cX8_product 12 = .ok (.invokevirtual 199, 3) := by decide +kernel
theorem dX8_product_15 : decode cX8_product 15 = .ok (.bipush 42, 2) := by decide +kernel
theorem dX8_product_17 : decode cX8_product 17 = .ok (.if_icmp .eq 21, 3) := by decide +kernel
theorem dX8_product_20 : decode cX8_product 20 = .ok (.aload_n 0, 1) := by decide +kernel
theorem dX8_product_21 : decode cX8_product 21 = .ok (.invokevirtual 199, 3) := by decide +kernel
theorem dX8_product_24 : decode cX8_product 24 = .ok (.bipush 47, 2) := by decide +kernel
theorem dX8_product_26 : decode cX8_product 26 = .ok (.if_icmp .eq 12, 3) := by decide +kernel
theorem dX8_product_29 : decode cX8_product 29 = .ok (.aload_n 0, 1) := by decide +kernel
theorem dX8_product_30 : decode cX8_product 30 = .ok (.invokevirtual 199, 3) := by decide +kernel
theorem dX8_product_33 : decode cX8_product 33 = .ok (.bipush 37, 2) := by decide +kernel
theorem dX8_product_35 : decode cX8_product 35 = .ok (.if_icmp .ne 31, 3) := by decide +kernel
theorem dX8_product_38 : decode cX8_product 38 = .ok (.aload_n 0, 1) := by decide +kernel
theorem dX8_product_39 : decode cX8_product 39 = .ok (.invokevirtual 199, 3) := by decide +kernel
theorem dX8_product_42 : decode cX8_product 42 = .ok (.istore_n 1, 1) := by decide +kernel
theorem dX8_product_43 : decode cX8_product 43 = .ok (.aload_n 0, 1) := by decide +kernel
theorem dX8_product_44 : decode cX8_product 44 = .ok (.dup, 1) := by decide +kernel
theorem dX8_product_45 : decode cX8_product 45 = .ok (.getfield 184, 3) := by decide +kernel
theorem dX8_product_48 : decode cX8_product 48 = .ok (.iconst 1, 1) := by decide +kernel
theorem dX8_product_49 : decode cX8_product 49 = .ok (.iadd, 1) := by decide +kernel
theorem dX8_product_50 : decode cX8_product 50 = .ok (.putfield 184, 3) := by decide +kernel
theorem dX8_product_53 : decode cX8_product 53 = .ok (.aload_n 0, 1) := by decide +kernel
theorem dX8_product_54 : decode cX8_product 54 = .ok (.invokevirtual 214, 3) := by decide +kernel
theorem dX8_product_57 : decode cX8_product 57 = .ok (.aload_n 0, 1) := by decide +kernel
theorem dX8_product_58 : decode cX8_product 58 = .ok (.iload_n 1, 1) := by decide +kernel
theorem dX8_product_59 : decode cX8_product 59 = .ok (.iconst 0, 1) := by decide +kernel
theorem dX8_product_60 : decode cX8_product 60 = .ok (.invokevirtual 203, 3) := by decide +kernel
theorem dX8_product_63 : decode cX8_product 63 = .ok (.goto (-59), 3) := by decide +kernel
theorem dX8_product_66 : decode cX8_product 66 = .ok (.return_, 1) := by decide +kernel
theorem dX8_sum_0 : decode cX8_sum 0 = .ok (.aload_n 0, 1) := by decide +kernel
theorem dX8_sum_1 : decode cX8_sum 1 = .ok (.invokevirtual 223, 3) := by decide +kernel
theorem dX8_sum_4 : decode cX8_sum 4 = .ok (.aload_n 0, 1) := by decide +kernel
theorem dX8_sum_5 : decode cX8_sum 5 = .ok (.getfield 187, 3) := by decide +kernel
theorem dX8_sum_8 : decode cX8_sum 8 = .ok (.ifCond .ge 49, 3) := by decide +kernel
theorem dX8_sum_11 : decode cX8_sum 11 = .ok (.aload_n 0, 1) := by decide +kernel
theorem dX8_sum_12 : decode cX8_sum 12 = .ok (.invokevirtual 199, 3) := by decide +kernel
theorem dX8_sum_15 : decode cX8_sum 15 = .ok (.bipush 43, 2) := by decide +kernel
theorem dX8_sum_17 : decode cX8_sum 17 = .ok (.if_icmp .eq 12, 3) := by decide +kernel
theorem dX8_sum_20 : decode cX8_sum 20 = .ok (.aload_n 0, 1) := by decide +kernel
theorem dX8_sum_21 : decode cX8_sum 21 = .ok (.invokevirtual 199, 3) := by decide +kernel
theorem dX8_sum_24 : decode cX8_sum 24 = .ok (.bipush 45, 2) := by decide +kernel
theorem dX8_sum_26 : decode cX8_sum 26 = .ok (.if_icmp .ne 31, 3) := by decide +kernel
theorem dX8_sum_29 : decode cX8_sum 29 = .ok (.aload_n 0, 1) := by decide +kernel
theorem dX8_sum_30 : decode cX8_sum 30 = .ok (.invokevirtual 199, 3) := by decide +kernel
theorem dX8_sum_33 : decode cX8_sum 33 = .ok (.istore_n 1, 1) := by decide +kernel
theorem dX8_sum_34 : decode cX8_sum 34 = .ok (.aload_n 0, 1) := by decide +kernel
theorem dX8_sum_35 : decode cX8_sum 35 = .ok (.dup, 1) := by decide +kernel
theorem dX8_sum_36 : decode cX8_sum 36 = .ok (.getfield 184, 3) := by decide +kernel
theorem dX8_sum_39 : decode cX8_sum 39 = .ok (.iconst 1, 1) := by decide +kernel
theorem dX8_sum_40 : decode cX8_sum 40 = .ok (.iadd, 1) := by decide +kernel
theorem dX8_sum_41 : decode cX8_sum 41 = .ok (.putfield 184, 3) := by decide +kernel
theorem dX8_sum_44 : decode cX8_sum 44 = .ok (.aload_n 0, 1) := by decide +kernel
theorem dX8_sum_45 : decode cX8_sum 45 = .ok (.invokevirtual 223, 3) := by decide +kernel
theorem dX8_sum_48 : decode cX8_sum 48 = .ok (.aload_n 0, 1) := by decide +kernel
theorem dX8_sum_49 : decode cX8_sum 49 = .ok (.iload_n 1, 1) := by decide +kernel
theorem dX8_sum_50 : decode cX8_sum 50 = .ok (.iconst 0, 1) := by decide +kernel
theorem dX8_sum_51 : decode cX8_sum 51 = .ok (.invokevirtual 203, 3) := by decide +kernel
theorem dX8_sum_54 : decode cX8_sum 54 = .ok (.goto (-50), 3) := by decide +kernel
theorem dX8_sum_57 : decode cX8_sum 57 = .ok (.return_, 1) := by decide +kernel
theorem dX8_compared_0 : decode cX8_compared 0 = .ok (.aload_n 0, 1) := by decide +kernel
theorem dX8_compared_1 : decode cX8_compared 1 = .ok (.invokevirtual 226, 3) := by decide +kernel
theorem dX8_compared_4 : decode cX8_compared 4 = .ok (.aload_n 0, 1) := by decide +kernel
theorem dX8_compared_5 : decode cX8_compared 5 = .ok (.invokevirtual 199, 3) := by decide +kernel
theorem dX8_compared_8 : decode cX8_compared 8 = .ok (.istore_n 1, 1) := by decide +kernel
theorem dX8_compared_9 : decode cX8_compared 9 = .ok (.aload_n 0, 1) := by decide +kernel
theorem dX8_compared_10 : decode cX8_compared 10 = .ok (.getfield 187, 3) := by decide +kernel
theorem dX8_compared_13 : decode cX8_compared 13 = .ok (.ifCond .ge 21, 3) := by decide +kernel
theorem dX8_compared_16 : decode cX8_compared 16 = .ok (.iload_n 1, 1) := by decide +kernel
theorem dX8_compared_17 : decode cX8_compared 17 = .ok (.bipush 60, 2) := by decide +kernel
theorem dX8_compared_19 : decode cX8_compared 19 = .ok (.if_icmp .eq 16, 3) := by decide +kernel
theorem dX8_compared_22 : decode cX8_compared 22 = .ok (.iload_n 1, 1) := by decide +kernel
theorem dX8_compared_23 : decode cX8_compared 23 = .ok (.bipush 61, 2) := by decide +kernel
theorem dX8_compared_25 : decode cX8_compared 25 = .ok (.if_icmp .eq 10, 3) := by decide +kernel
theorem dX8_compared_28 : decode cX8_compared 28 = .ok (.iload_n 1, 1) := by decide +kernel
theorem dX8_compared_29 : decode cX8_compared 29 = .ok (.bipush 62, 2) := by decide +kernel
theorem dX8_compared_31 : decode cX8_compared 31 = .ok (.if_icmp .eq 4, 3) := by decide +kernel
theorem dX8_compared_34 : decode cX8_compared 34 = .ok (.return_, 1) := by decide +kernel
theorem dX8_compared_35 : decode cX8_compared 35 = .ok (.aload_n 0, 1) := by decide +kernel
theorem dX8_compared_36 : decode cX8_compared 36 = .ok (.dup, 1) := by decide +kernel
theorem dX8_compared_37 : decode cX8_compared 37 = .ok (.getfield 184, 3) := by decide +kernel
theorem dX8_compared_40 : decode cX8_compared 40 = .ok (.iconst 1, 1) := by decide +kernel
theorem dX8_compared_41 : decode cX8_compared 41 = .ok (.iadd, 1) := by decide +kernel
theorem dX8_compared_42 : decode cX8_compared 42 = .ok (.putfield 184, 3) := by decide +kernel
theorem dX8_compared_45 : decode cX8_compared 45 = .ok (.aload_n 0, 1) := by decide +kernel
theorem dX8_compared_46 : decode cX8_compared 46 = .ok (.invokevirtual 226, 3) := by decide +kernel
theorem dX8_compared_49 : decode cX8_compared 49 = .ok (.aload_n 0, 1) := by decide +kernel
theorem dX8_compared_50 : decode cX8_compared 50 = .ok (.iload_n 1, 1) := by decide +kernel
theorem dX8_compared_51 : decode cX8_compared 51 = .ok (.iconst 0, 1) := by decide +kernel
theorem dX8_compared_52 : decode cX8_compared 52 = .ok (.invokevirtual 203, 3) := by decide +kernel
theorem dX8_compared_55 : decode cX8_compared 55 = .ok (.return_, 1) := by decide +kernel
theorem dX8_both_0 : decode cX8_both 0 = .ok (.aload_n 0, 1) := by decide +kernel
theorem dX8_both_1 : decode cX8_both 1 = .ok (.invokevirtual 229, 3) := by decide +kernel
theorem dX8_both_4 : decode cX8_both 4 = .ok (.aload_n 0, 1) := by decide +kernel
theorem dX8_both_5 : decode cX8_both 5 = .ok (.getfield 187, 3) := by decide +kernel
theorem dX8_both_8 : decode cX8_both 8 = .ok (.ifCond .ge 36, 3) := by decide +kernel
theorem dX8_both_11 : decode cX8_both 11 = .ok (.aload_n 0, 1) := by decide +kernel
theorem dX8_both_12 : decode cX8_both 12 = .ok (.invokevirtual 199, 3) := by decide +kernel
theorem dX8_both_15 : decode cX8_both 15 = .ok (.bipush 38, 2) := by decide +kernel
theorem dX8_both_17 : decode cX8_both 17 = .ok (.if_icmp .ne 27, 3) := by decide +kernel
theorem dX8_both_20 : decode cX8_both 20 = .ok (.aload_n 0, 1) := by decide +kernel
theorem dX8_both_21 : decode cX8_both 21 = .ok (.dup, 1) := by decide +kernel
theorem dX8_both_22 : decode cX8_both 22 = .ok (.getfield 184, 3) := by decide +kernel
theorem dX8_both_25 : decode cX8_both 25 = .ok (.iconst 1, 1) := by decide +kernel
theorem dX8_both_26 : decode cX8_both 26 = .ok (.iadd, 1) := by decide +kernel
theorem dX8_both_27 : decode cX8_both 27 = .ok (.putfield 184, 3) := by decide +kernel
theorem dX8_both_30 : decode cX8_both 30 = .ok (.aload_n 0, 1) := by decide +kernel
theorem dX8_both_31 : decode cX8_both 31 = .ok (.invokevirtual 229, 3) := by decide +kernel
theorem dX8_both_34 : decode cX8_both 34 = .ok (.aload_n 0, 1) := by decide +kernel
theorem dX8_both_35 : decode cX8_both 35 = .ok (.bipush 38, 2) := by decide +kernel
theorem dX8_both_37 : decode cX8_both 37 = .ok (.iconst 0, 1) := by decide +kernel
theorem dX8_both_38 : decode cX8_both 38 = .ok (.invokevirtual 203, 3) := by decide +kernel
theorem dX8_both_41 : decode cX8_both 41 = .ok (.goto (-37), 3) := by decide +kernel
theorem dX8_both_44 : decode cX8_both 44 = .ok (.return_, 1) := by decide +kernel
theorem dX8_either_0 : decode cX8_either 0 = .ok (.aload_n 0, 1) := by decide +kernel
theorem dX8_either_1 : decode cX8_either 1 = .ok (.invokevirtual 232, 3) := by decide +kernel
theorem dX8_either_4 : decode cX8_either 4 = .ok (.aload_n 0, 1) := by decide +kernel
theorem dX8_either_5 : decode cX8_either 5 = .ok (.getfield 187, 3) := by decide +kernel
theorem dX8_either_8 : decode cX8_either 8 = .ok (.ifCond .ge 36, 3) := by decide +kernel
theorem dX8_either_11 : decode cX8_either 11 = .ok (.aload_n 0, 1) := by decide +kernel
theorem dX8_either_12 : decode cX8_either 12 = .ok (.invokevirtual 199, 3) := by decide +kernel
theorem dX8_either_15 : decode cX8_either 15 = .ok (.bipush 124, 2) := by decide +kernel
theorem dX8_either_17 : decode cX8_either 17 = .ok (.if_icmp .ne 27, 3) := by decide +kernel
theorem dX8_either_20 : decode cX8_either 20 = .ok (.aload_n 0, 1) := by decide +kernel
theorem dX8_either_21 : decode cX8_either 21 = .ok (.dup, 1) := by decide +kernel
theorem dX8_either_22 : decode cX8_either 22 = .ok (.getfield 184, 3) := by decide +kernel
theorem dX8_either_25 : decode cX8_either 25 = .ok (.iconst 1, 1) := by decide +kernel
theorem dX8_either_26 : decode cX8_either 26 = .ok (.iadd, 1) := by decide +kernel
theorem dX8_either_27 : decode cX8_either 27 = .ok (.putfield 184, 3) := by decide +kernel
theorem dX8_either_30 : decode cX8_either 30 = .ok (.aload_n 0, 1) := by decide +kernel
theorem dX8_either_31 : decode cX8_either 31 = .ok (.invokevirtual 232, 3) := by decide +kernel
theorem dX8_either_34 : decode cX8_either 34 = .ok (.aload_n 0, 1) := by decide +kernel
theorem dX8_either_35 : decode cX8_either 35 = .ok (.bipush 124, 2) := by decide +kernel
theorem dX8_either_37 : decode cX8_either 37 = .ok (.iconst 0, 1) := by decide +kernel
theorem dX8_either_38 : decode cX8_either 38 = .ok (.invokevirtual 203, 3) := by decide +kernel
theorem dX8_either_41 : decode cX8_either 41 = .ok (.goto (-37), 3) := by decide +kernel
theorem dX8_either_44 : decode cX8_either 44 = .ok (.return_, 1) := by decide +kernel
theorem dX8_line_0 : decode cX8_line 0 = .ok (.bipush 61, 2) := by decide +kernel
theorem dX8_line_2 : decode cX8_line 2 = .ok (.aload_n 0, 1) := by decide +kernel
theorem dX8_line_3 : decode cX8_line 3 = .ok (.getfield 56, 3) := by decide +kernel
theorem dX8_line_6 : decode cX8_line 6 = .ok (.iconst 1, 1) := by decide +kernel
theorem dX8_line_7 : decode cX8_line 7 = .ok (.iaload, 1) := by decide +kernel
theorem dX8_line_8 : decode cX8_line 8 = .ok (.iadd, 1) := by decide +kernel
theorem dX8_line_9 : decode cX8_line 9 = .ok (.istore_n 1, 1) := by decide +kernel
theorem dX8_line_10 : decode cX8_line 10 = .ok (.aload_n 0, 1) := by decide +kernel
theorem dX8_line_11 : decode cX8_line 11 = .ok (.getfield 59, 3) := by decide +kernel
theorem dX8_line_14 : decode cX8_line 14 = .ok (.iload_n 1, 1) := by decide +kernel
theorem dX8_line_15 : decode cX8_line 15 = .ok (.aload_n 0, 1) := by decide +kernel
theorem dX8_line_16 : decode cX8_line 16 = .ok (.getfield 190, 3) := by decide +kernel
theorem dX8_line_19 : decode cX8_line 19 = .ok (.i2s, 1) := by decide +kernel
theorem dX8_line_20 : decode cX8_line 20 = .ok (.sastore, 1) := by decide +kernel
theorem dX8_line_21 : decode cX8_line 21 = .ok (.aload_n 0, 1) := by decide +kernel
theorem dX8_line_22 : decode cX8_line 22 = .ok (.invokevirtual 217, 3) := by decide +kernel
theorem dX8_line_25 : decode cX8_line 25 = .ok (.aload_n 0, 1) := by decide +kernel
theorem dX8_line_26 : decode cX8_line 26 = .ok (.getfield 187, 3) := by decide +kernel
theorem dX8_line_29 : decode cX8_line 29 = .ok (.ifCond .ge 37, 3) := by decide +kernel
theorem dX8_line_32 : decode cX8_line 32 = .ok (.aload_n 0, 1) := by decide +kernel
theorem dX8_line_33 : decode cX8_line 33 = .ok (.invokevirtual 199, 3) := by decide +kernel
theorem dX8_line_36 : decode cX8_line 36 = .ok (.bipush 63, 2) := by decide +kernel
theorem dX8_line_38 : decode cX8_line 38 = .ok (.if_icmp .ne 28, 3) := by decide +kernel
theorem dX8_line_41 : decode cX8_line 41 = .ok (.aload_n 0, 1) := by decide +kernel
theorem dX8_line_42 : decode cX8_line 42 = .ok (.dup, 1) := by decide +kernel
theorem dX8_line_43 : decode cX8_line 43 = .ok (.getfield 184, 3) := by decide +kernel
theorem dX8_line_46 : decode cX8_line 46 = .ok (.iconst 1, 1) := by decide +kernel
theorem dX8_line_47 : decode cX8_line 47 = .ok (.iadd, 1) := by decide +kernel
theorem dX8_line_48 : decode cX8_line 48 = .ok (.putfield 184, 3) := by decide +kernel
theorem dX8_line_51 : decode cX8_line 51 = .ok (.aload_n 0, 1) := by decide +kernel
theorem dX8_line_52 : decode cX8_line 52 = .ok (.getfield 59, 3) := by decide +kernel
theorem dX8_line_55 : decode cX8_line 55 = .ok (.iload_n 1, 1) := by decide +kernel
theorem dX8_line_56 : decode cX8_line 56 = .ok (.aload_n 0, 1) := by decide +kernel
theorem dX8_line_57 : decode cX8_line 57 = .ok (.getfield 190, 3) := by decide +kernel
theorem dX8_line_60 : decode cX8_line 60 = .ok (.i2s, 1) := by decide +kernel
theorem dX8_line_61 : decode cX8_line 61 = .ok (.sastore, 1) := by decide +kernel
theorem dX8_line_62 : decode cX8_line 62 = .ok (.aload_n 0, 1) := by decide +kernel
theorem dX8_line_63 : decode cX8_line 63 = .ok (.invokevirtual 217, 3) := by decide +kernel
theorem dX8_line_66 : decode cX8_line 66 = .ok (.aload_n 0, 1) := by decide +kernel
theorem dX8_line_67 : decode cX8_line 67 = .ok (.getfield 63, 3) := by decide +kernel
theorem dX8_line_70 : decode cX8_line 70 = .ok (.iload_n 1, 1) := by decide +kernel
theorem dX8_line_71 : decode cX8_line 71 = .ok (.aload_n 0, 1) := by decide +kernel
theorem dX8_line_72 : decode cX8_line 72 = .ok (.getfield 190, 3) := by decide +kernel
theorem dX8_line_75 : decode cX8_line 75 = .ok (.i2s, 1) := by decide +kernel
theorem dX8_line_76 : decode cX8_line 76 = .ok (.sastore, 1) := by decide +kernel
theorem dX8_line_77 : decode cX8_line 77 = .ok (.aload_n 0, 1) := by decide +kernel
theorem dX8_line_78 : decode cX8_line 78 = .ok (.getfield 56, 3) := by decide +kernel
theorem dX8_line_81 : decode cX8_line 81 = .ok (.iconst 1, 1) := by decide +kernel
theorem dX8_line_82 : decode cX8_line 82 = .ok (.dup2, 1) := by decide +kernel
theorem dX8_line_83 : decode cX8_line 83 = .ok (.iaload, 1) := by decide +kernel
theorem dX8_line_84 : decode cX8_line 84 = .ok (.iconst 1, 1) := by decide +kernel
theorem dX8_line_85 : decode cX8_line 85 = .ok (.iadd, 1) := by decide +kernel
theorem dX8_line_86 : decode cX8_line 86 = .ok (.iastore, 1) := by decide +kernel
theorem dX8_line_87 : decode cX8_line 87 = .ok (.return_, 1) := by decide +kernel
theorem dX8_readText_0 : decode cX8_readText 0 = .ok (.aload_n 0, 1) := by decide +kernel
theorem dX8_readText_1 : decode cX8_readText 1 = .ok (.iconst 0, 1) := by decide +kernel
theorem dX8_readText_2 : decode cX8_readText 2 = .ok (.putfield 184, 3) := by decide +kernel
theorem dX8_readText_5 : decode cX8_readText 5 = .ok (.aload_n 0, 1) := by decide +kernel
theorem dX8_readText_6 : decode cX8_readText 6 = .ok (.iconst (-1), 1) := by decide +kernel
theorem dX8_readText_7 : decode cX8_readText 7 = .ok (.putfield 187, 3) := by decide +kernel
theorem dX8_readText_10 : decode cX8_readText 10 = .ok (.aload_n 0, 1) := by decide +kernel
theorem dX8_readText_11 : decode cX8_readText 11 = .ok (.iconst 0, 1) := by decide +kernel
theorem dX8_readText_12 : decode cX8_readText 12 = .ok (.putfield 193, 3) := by decide +kernel
theorem dX8_readText_15 : decode cX8_readText 15 = .ok (.aload_n 0, 1) := by decide +kernel
theorem dX8_readText_16 : decode cX8_readText 16 = .ok (.iconst 0, 1) := by decide +kernel
theorem dX8_readText_17 : decode cX8_readText 17 = .ok (.putfield 190, 3) := by decide +kernel
theorem dX8_readText_20 : decode cX8_readText 20 = .ok (.aload_n 0, 1) := by decide +kernel
theorem dX8_readText_21 : decode cX8_readText 21 = .ok (.getfield 56, 3) := by decide +kernel
theorem dX8_readText_24 : decode cX8_readText 24 = .ok (.iconst 1, 1) := by decide +kernel
theorem dX8_readText_25 : decode cX8_readText 25 = .ok (.iconst 0, 1) := by decide +kernel
theorem dX8_readText_26 : decode cX8_readText 26 = .ok (.iastore, 1) := by decide +kernel
theorem dX8_readText_27 : decode cX8_readText 27 = .ok (.aload_n 0, 1) := by decide +kernel
theorem dX8_readText_28 : decode cX8_readText 28 = .ok (.invokevirtual 235, 3) := by decide +kernel
theorem dX8_readText_31 : decode cX8_readText 31 = .ok (.aload_n 0, 1) := by decide +kernel
theorem dX8_readText_32 : decode cX8_readText 32 = .ok (.getfield 187, 3) := by decide +kernel
theorem dX8_readText_35 : decode cX8_readText 35 = .ok (.ifCond .ge 29, 3) := by decide +kernel
theorem dX8_readText_38 : decode cX8_readText 38 = .ok (.aload_n 0, 1) := by decide +kernel
theorem dX8_readText_39 : decode cX8_readText 39 = .ok (.invokevirtual 199, 3) := by decide +kernel
theorem dX8_readText_42 : decode cX8_readText 42 = .ok (.bipush 59, 2) := by decide +kernel
theorem dX8_readText_44 : decode cX8_readText 44 = .ok (.if_icmp .ne 20, 3) := by decide +kernel
theorem dX8_readText_47 : decode cX8_readText 47 = .ok (.aload_n 0, 1) := by decide +kernel
theorem dX8_readText_48 : decode cX8_readText 48 = .ok (.dup, 1) := by decide +kernel
theorem dX8_readText_49 : decode cX8_readText 49 = .ok (.getfield 184, 3) := by decide +kernel
theorem dX8_readText_52 : decode cX8_readText 52 = .ok (.iconst 1, 1) := by decide +kernel
theorem dX8_readText_53 : decode cX8_readText 53 = .ok (.iadd, 1) := by decide +kernel
theorem dX8_readText_54 : decode cX8_readText 54 = .ok (.putfield 184, 3) := by decide +kernel
theorem dX8_readText_57 : decode cX8_readText 57 = .ok (.aload_n 0, 1) := by decide +kernel
theorem dX8_readText_58 : decode cX8_readText 58 = .ok (.invokevirtual 235, 3) := by decide +kernel
theorem dX8_readText_61 : decode cX8_readText 61 = .ok (.goto (-30), 3) := by decide +kernel
theorem dX8_readText_64 : decode cX8_readText 64 = .ok (.aload_n 0, 1) := by decide +kernel
theorem dX8_readText_65 : decode cX8_readText 65 = .ok (.getfield 187, 3) := by decide +kernel
theorem dX8_readText_68 : decode cX8_readText 68 = .ok (.ifCond .ge 18, 3) := by decide +kernel
theorem dX8_readText_71 : decode cX8_readText 71 = .ok (.aload_n 0, 1) := by decide +kernel
theorem dX8_readText_72 : decode cX8_readText 72 = .ok (.getfield 184, 3) := by decide +kernel
theorem dX8_readText_75 : decode cX8_readText 75 = .ok (.aload_n 0, 1) := by decide +kernel
theorem dX8_readText_76 : decode cX8_readText 76 = .ok (.getfield 181, 3) := by decide +kernel
theorem dX8_readText_79 : decode cX8_readText 79 = .ok (.if_icmp .ge 7, 3) := by decide +kernel
theorem dX8_readText_82 : decode cX8_readText 82 = .ok (.aload_n 0, 1) := by decide +kernel
theorem dX8_readText_83 : decode cX8_readText 83 = .ok (.invokevirtual 196, 3) := by decide +kernel
theorem dX8_readText_86 : decode cX8_readText 86 = .ok (.aload_n 0, 1) := by decide +kernel
theorem dX8_readText_87 : decode cX8_readText 87 = .ok (.iconst 0, 1) := by decide +kernel
theorem dX8_readText_88 : decode cX8_readText 88 = .ok (.putfield 181, 3) := by decide +kernel
theorem dX8_readText_91 : decode cX8_readText 91 = .ok (.aload_n 0, 1) := by decide +kernel
theorem dX8_readText_92 : decode cX8_readText 92 = .ok (.getfield 187, 3) := by decide +kernel
theorem dX8_readText_95 : decode cX8_readText 95 = .ok (.ifCond .lt 8, 3) := by decide +kernel
theorem dX8_readText_98 : decode cX8_readText 98 = .ok (.aload_n 0, 1) := by decide +kernel
theorem dX8_readText_99 : decode cX8_readText 99 = .ok (.getfield 187, 3) := by decide +kernel
theorem dX8_readText_102 : decode cX8_readText 102 = .ok (.ireturn, 1) := by decide +kernel
theorem dX8_readText_103 : decode cX8_readText 103 = .ok (.iconst 0, 1) := by decide +kernel
theorem dX8_readText_104 : decode cX8_readText 104 = .ok (.istore_n 2, 1) := by decide +kernel
theorem dX8_readText_105 : decode cX8_readText 105 = .ok (.iload_n 2, 1) := by decide +kernel
theorem dX8_readText_106 : decode cX8_readText 106 = .ok (.aload_n 0, 1) := by decide +kernel
theorem dX8_readText_107 : decode cX8_readText 107 = .ok (.getfield 190, 3) := by decide +kernel
theorem dX8_readText_110 : decode cX8_readText 110 = .ok (.if_icmp .ge 53, 3) := by decide +kernel
theorem dX8_readText_113 : decode cX8_readText 113 = .ok (.aload_n 0, 1) := by decide +kernel
theorem dX8_readText_114 : decode cX8_readText 114 = .ok (.getfield 50, 3) := by decide +kernel
theorem dX8_readText_117 : decode cX8_readText 117 = .ok (.sipush 130, 3) := by decide +kernel
theorem dX8_readText_120 : decode cX8_readText 120 = .ok (.iload_n 1, 1) := by decide +kernel
theorem dX8_readText_121 : decode cX8_readText 121 = .ok (.imul, 1) := by decide +kernel
theorem dX8_readText_122 : decode cX8_readText 122 = .ok (.iload_n 2, 1) := by decide +kernel
theorem dX8_readText_123 : decode cX8_readText 123 = .ok (.iadd, 1) := by decide +kernel
theorem dX8_readText_124 : decode cX8_readText 124 = .ok (.aload_n 0, 1) := by decide +kernel
theorem dX8_readText_125 : decode cX8_readText 125 = .ok (.getfield 50, 3) := by decide +kernel
theorem dX8_readText_128 : decode cX8_readText 128 = .ok (.sipush 130, 3) := by decide +kernel
theorem dX8_readText_131 : decode cX8_readText 131 = .ok (.iload_n 2, 1) := by decide +kernel
theorem dX8_readText_132 : decode cX8_readText 132 = .ok (.iadd, 1) := by decide +kernel
theorem dX8_readText_133 : decode cX8_readText 133 = .ok (.baload, 1) := by decide +kernel
theorem dX8_readText_134 : decode cX8_readText 134 = .ok (.bastore, 1) := by decide +kernel
theorem dX8_readText_135 : decode cX8_readText 135 = .ok (.aload_n 0, 1) := by decide +kernel
theorem dX8_readText_136 : decode cX8_readText 136 = .ok (.getfield 53, 3) := by decide +kernel
theorem dX8_readText_139 : decode cX8_readText 139 = .ok (.sipush 130, 3) := by decide +kernel
theorem dX8_readText_142 : decode cX8_readText 142 = .ok (.iload_n 1, 1) := by decide +kernel
theorem dX8_readText_143 : decode cX8_readText 143 = .ok (.imul, 1) := by decide +kernel
theorem dX8_readText_144 : decode cX8_readText 144 = .ok (.iload_n 2, 1) := by decide +kernel
theorem dX8_readText_145 : decode cX8_readText 145 = .ok (.iadd, 1) := by decide +kernel
theorem dX8_readText_146 : decode cX8_readText 146 = .ok (.aload_n 0, 1) := by decide +kernel
theorem dX8_readText_147 : decode cX8_readText 147 = .ok (.getfield 53, 3) := by decide +kernel
theorem dX8_readText_150 : decode cX8_readText 150 = .ok (.sipush 130, 3) := by decide +kernel
theorem dX8_readText_153 : decode cX8_readText 153 = .ok (.iload_n 2, 1) := by decide +kernel
theorem dX8_readText_154 : decode cX8_readText 154 = .ok (.iadd, 1) := by decide +kernel
theorem dX8_readText_155 : decode cX8_readText 155 = .ok (.iaload, 1) := by decide +kernel
theorem dX8_readText_156 : decode cX8_readText 156 = .ok (.iastore, 1) := by decide +kernel
theorem dX8_readText_157 : decode cX8_readText 157 = .ok (.iinc 2 1, 3) := by decide +kernel
theorem dX8_readText_160 : decode cX8_readText 160 = .ok (.goto (-55), 3) := by decide +kernel
theorem dX8_readText_163 : decode cX8_readText 163 = .ok (.aload_n 0, 1) := by decide +kernel
theorem dX8_readText_164 : decode cX8_readText 164 = .ok (.getfield 56, 3) := by decide +kernel
theorem dX8_readText_167 : decode cX8_readText 167 = .ok (.iload_n 1, 1) := by decide +kernel
theorem dX8_readText_168 : decode cX8_readText 168 = .ok (.aload_n 0, 1) := by decide +kernel
theorem dX8_readText_169 : decode cX8_readText 169 = .ok (.getfield 56, 3) := by decide +kernel
theorem dX8_readText_172 : decode cX8_readText 172 = .ok (.iconst 1, 1) := by decide +kernel
theorem dX8_readText_173 : decode cX8_readText 173 = .ok (.iaload, 1) := by decide +kernel
theorem dX8_readText_174 : decode cX8_readText 174 = .ok (.iastore, 1) := by decide +kernel
theorem dX8_readText_175 : decode cX8_readText 175 = .ok (.iconst 0, 1) := by decide +kernel
theorem dX8_readText_176 : decode cX8_readText 176 = .ok (.istore_n 2, 1) := by decide +kernel
theorem dX8_readText_177 : decode cX8_readText 177 = .ok (.iload_n 2, 1) := by decide +kernel
theorem dX8_readText_178 : decode cX8_readText 178 = .ok (.aload_n 0, 1) := by decide +kernel
theorem dX8_readText_179 : decode cX8_readText 179 = .ok (.getfield 56, 3) := by decide +kernel
theorem dX8_readText_182 : decode cX8_readText 182 = .ok (.iload_n 1, 1) := by decide +kernel
theorem dX8_readText_183 : decode cX8_readText 183 = .ok (.iaload, 1) := by decide +kernel
theorem dX8_readText_184 : decode cX8_readText 184 = .ok (.if_icmp .ge 49, 3) := by decide +kernel
theorem dX8_readText_187 : decode cX8_readText 187 = .ok (.aload_n 0, 1) := by decide +kernel
theorem dX8_readText_188 : decode cX8_readText 188 = .ok (.getfield 59, 3) := by decide +kernel
theorem dX8_readText_191 : decode cX8_readText 191 = .ok (.bipush 61, 2) := by decide +kernel
theorem dX8_readText_193 : decode cX8_readText 193 = .ok (.iload_n 1, 1) := by decide +kernel
theorem dX8_readText_194 : decode cX8_readText 194 = .ok (.imul, 1) := by decide +kernel
theorem dX8_readText_195 : decode cX8_readText 195 = .ok (.iload_n 2, 1) := by decide +kernel
theorem dX8_readText_196 : decode cX8_readText 196 = .ok (.iadd, 1) := by decide +kernel
theorem dX8_readText_197 : decode cX8_readText 197 = .ok (.aload_n 0, 1) := by decide +kernel
theorem dX8_readText_198 : decode cX8_readText 198 = .ok (.getfield 59, 3) := by decide +kernel
theorem dX8_readText_201 : decode cX8_readText 201 = .ok (.bipush 61, 2) := by decide +kernel
theorem dX8_readText_203 : decode cX8_readText 203 = .ok (.iload_n 2, 1) := by decide +kernel
theorem dX8_readText_204 : decode cX8_readText 204 = .ok (.iadd, 1) := by decide +kernel
theorem dX8_readText_205 : decode cX8_readText 205 = .ok (.saload, 1) := by decide +kernel
theorem dX8_readText_206 : decode cX8_readText 206 = .ok (.sastore, 1) := by decide +kernel
theorem dX8_readText_207 : decode cX8_readText 207 = .ok (.aload_n 0, 1) := by decide +kernel
theorem dX8_readText_208 : decode cX8_readText 208 = .ok (.getfield 63, 3) := by decide +kernel
theorem dX8_readText_211 : decode cX8_readText 211 = .ok (.bipush 61, 2) := by decide +kernel
theorem dX8_readText_213 : decode cX8_readText 213 = .ok (.iload_n 1, 1) := by decide +kernel
theorem dX8_readText_214 : decode cX8_readText 214 = .ok (.imul, 1) := by decide +kernel
theorem dX8_readText_215 : decode cX8_readText 215 = .ok (.iload_n 2, 1) := by decide +kernel
theorem dX8_readText_216 : decode cX8_readText 216 = .ok (.iadd, 1) := by decide +kernel
theorem dX8_readText_217 : decode cX8_readText 217 = .ok (.aload_n 0, 1) := by decide +kernel
theorem dX8_readText_218 : decode cX8_readText 218 = .ok (.getfield 63, 3) := by decide +kernel
theorem dX8_readText_221 : decode cX8_readText 221 = .ok (.bipush 61, 2) := by decide +kernel
theorem dX8_readText_223 : decode cX8_readText 223 = .ok (.iload_n 2, 1) := by decide +kernel
theorem dX8_readText_224 : decode cX8_readText 224 = .ok (.iadd, 1) := by decide +kernel
theorem dX8_readText_225 : decode cX8_readText 225 = .ok (.saload, 1) := by decide +kernel
theorem dX8_readText_226 : decode cX8_readText 226 = .ok (.sastore, 1) := by decide +kernel
theorem dX8_readText_227 : decode cX8_readText 227 = .ok (.iinc 2 1, 3) := by decide +kernel
theorem dX8_readText_230 : decode cX8_readText 230 = .ok (.goto (-53), 3) := by decide +kernel
theorem dX8_readText_233 : decode cX8_readText 233 = .ok (.iconst (-1), 1) := by decide +kernel
theorem dX8_readText_234 : decode cX8_readText 234 = .ok (.ireturn, 1) := by decide +kernel
theorem dX8_twoOf_0 : decode cX8_twoOf 0 = .ok (.iload_n 0, 1) := by decide +kernel
theorem dX8_twoOf_1 : decode cX8_twoOf 1 = .ok (.tableswitch 217 37 62 #[153, 203, 217, 217, 217, 127, 119, 217, 123, 217, 131, 217, 217, 217, 217, 217, 217, 217, 217, 217, 217, 217, 217, 170, 181, 192], 119) := by decide +kernel
theorem dX8_twoOf_120 : decode cX8_twoOf 120 = .ok (.iload_n 1, 1) := by decide +kernel
theorem dX8_twoOf_121 : decode cX8_twoOf 121 = .ok (.iload_n 2, 1) := by decide +kernel
theorem dX8_twoOf_122 : decode cX8_twoOf 122 = .ok (.iadd, 1) := by decide +kernel
theorem dX8_twoOf_123 : decode cX8_twoOf 123 = .ok (.ireturn, 1) := by decide +kernel
theorem dX8_twoOf_124 : decode cX8_twoOf 124 = .ok (.iload_n 1, 1) := by decide +kernel
theorem dX8_twoOf_125 : decode cX8_twoOf 125 = .ok (.iload_n 2, 1) := by decide +kernel
theorem dX8_twoOf_126 : decode cX8_twoOf 126 = .ok (.isub, 1) := by decide +kernel
theorem dX8_twoOf_127 : decode cX8_twoOf 127 = .ok (.ireturn, 1) := by decide +kernel
theorem dX8_twoOf_128 : decode cX8_twoOf 128 = .ok (.iload_n 1, 1) := by decide +kernel
theorem dX8_twoOf_129 : decode cX8_twoOf 129 = .ok (.iload_n 2, 1) := by decide +kernel
theorem dX8_twoOf_130 : decode cX8_twoOf 130 = .ok (.imul, 1) := by decide +kernel
theorem dX8_twoOf_131 : decode cX8_twoOf 131 = .ok (.ireturn, 1) := by decide +kernel
theorem dX8_twoOf_132 : decode cX8_twoOf 132 = .ok (.iload_n 2, 1) := by decide +kernel
theorem dX8_twoOf_133 : decode cX8_twoOf 133 = .ok (.ifCond .ne 7, 3) := by decide +kernel
theorem dX8_twoOf_136 : decode cX8_twoOf 136 = .ok (.iconst 0, 1) := by decide +kernel
theorem dX8_twoOf_137 : decode cX8_twoOf 137 = .ok (.goto 16, 3) := by decide +kernel
theorem dX8_twoOf_140 : decode cX8_twoOf 140 = .ok (.iload_n 2, 1) := by decide +kernel
theorem dX8_twoOf_141 : decode cX8_twoOf 141 = .ok (.iconst (-1), 1) := by decide +kernel
theorem dX8_twoOf_142 : decode cX8_twoOf 142 = .ok (.if_icmp .ne 8, 3) := by decide +kernel
theorem dX8_twoOf_145 : decode cX8_twoOf 145 = .ok (.iload_n 1, 1) := by decide +kernel
theorem dX8_twoOf_146 : decode cX8_twoOf 146 = .ok (.ineg, 1) := by decide +kernel
theorem dX8_twoOf_147 : decode cX8_twoOf 147 = .ok (.goto 6, 3) := by decide +kernel
theorem dX8_twoOf_150 : decode cX8_twoOf 150 = .ok (.iload_n 1, 1) := by decide +kernel
theorem dX8_twoOf_151 : decode cX8_twoOf 151 = .ok (.iload_n 2, 1) := by decide +kernel
theorem dX8_twoOf_152 : decode cX8_twoOf 152 = .ok (.idiv, 1) := by decide +kernel
theorem dX8_twoOf_153 : decode cX8_twoOf 153 = .ok (.ireturn, 1) := by decide +kernel
theorem dX8_twoOf_154 : decode cX8_twoOf 154 = .ok (.iload_n 2, 1) := by decide +kernel
theorem dX8_twoOf_155 : decode cX8_twoOf 155 = .ok (.ifCond .eq 8, 3) := by decide +kernel
theorem dX8_twoOf_158 : decode cX8_twoOf 158 = .ok (.iload_n 2, 1) := by decide +kernel
theorem dX8_twoOf_159 : decode cX8_twoOf 159 = .ok (.iconst (-1), 1) := by decide +kernel
theorem dX8_twoOf_160 : decode cX8_twoOf 160 = .ok (.if_icmp .ne 7, 3) := by decide +kernel
theorem dX8_twoOf_163 : decode cX8_twoOf 163 = .ok (.iconst 0, 1) := by decide +kernel
theorem dX8_twoOf_164 : decode cX8_twoOf 164 = .ok (.goto 6, 3) := by decide +kernel
theorem dX8_twoOf_167 : decode cX8_twoOf 167 = .ok (.iload_n 1, 1) := by decide +kernel
theorem dX8_twoOf_168 : decode cX8_twoOf 168 = .ok (.iload_n 2, 1) := by decide +kernel
theorem dX8_twoOf_169 : decode cX8_twoOf 169 = .ok (.irem, 1) := by decide +kernel
theorem dX8_twoOf_170 : decode cX8_twoOf 170 = .ok (.ireturn, 1) := by decide +kernel
theorem dX8_twoOf_171 : decode cX8_twoOf 171 = .ok (.iload_n 1, 1) := by decide +kernel
theorem dX8_twoOf_172 : decode cX8_twoOf 172 = .ok (.iload_n 2, 1) := by decide +kernel
theorem dX8_twoOf_173 : decode cX8_twoOf 173 = .ok (.if_icmp .ge 7, 3) := by decide +kernel
theorem dX8_twoOf_176 : decode cX8_twoOf 176 = .ok (.iconst 1, 1) := by decide +kernel
theorem dX8_twoOf_177 : decode cX8_twoOf 177 = .ok (.goto 4, 3) := by decide +kernel
theorem dX8_twoOf_180 : decode cX8_twoOf 180 = .ok (.iconst 0, 1) := by decide +kernel
theorem dX8_twoOf_181 : decode cX8_twoOf 181 = .ok (.ireturn, 1) := by decide +kernel
theorem dX8_twoOf_182 : decode cX8_twoOf 182 = .ok (.iload_n 1, 1) := by decide +kernel
theorem dX8_twoOf_183 : decode cX8_twoOf 183 = .ok (.iload_n 2, 1) := by decide +kernel
theorem dX8_twoOf_184 : decode cX8_twoOf 184 = .ok (.if_icmp .ne 7, 3) := by decide +kernel
theorem dX8_twoOf_187 : decode cX8_twoOf 187 = .ok (.iconst 1, 1) := by decide +kernel
theorem dX8_twoOf_188 : decode cX8_twoOf 188 = .ok (.goto 4, 3) := by decide +kernel
theorem dX8_twoOf_191 : decode cX8_twoOf 191 = .ok (.iconst 0, 1) := by decide +kernel
theorem dX8_twoOf_192 : decode cX8_twoOf 192 = .ok (.ireturn, 1) := by decide +kernel
theorem dX8_twoOf_193 : decode cX8_twoOf 193 = .ok (.iload_n 1, 1) := by decide +kernel
theorem dX8_twoOf_194 : decode cX8_twoOf 194 = .ok (.iload_n 2, 1) := by decide +kernel
theorem dX8_twoOf_195 : decode cX8_twoOf 195 = .ok (.if_icmp .le 7, 3) := by decide +kernel
theorem dX8_twoOf_198 : decode cX8_twoOf 198 = .ok (.iconst 1, 1) := by decide +kernel
theorem dX8_twoOf_199 : decode cX8_twoOf 199 = .ok (.goto 4, 3) := by decide +kernel
theorem dX8_twoOf_202 : decode cX8_twoOf 202 = .ok (.iconst 0, 1) := by decide +kernel
theorem dX8_twoOf_203 : decode cX8_twoOf 203 = .ok (.ireturn, 1) := by decide +kernel
theorem dX8_twoOf_204 : decode cX8_twoOf 204 = .ok (.iload_n 1, 1) := by decide +kernel
theorem dX8_twoOf_205 : decode cX8_twoOf 205 = .ok (.ifCond .eq 11, 3) := by decide +kernel
theorem dX8_twoOf_208 : decode cX8_twoOf 208 = .ok (.iload_n 2, 1) := by decide +kernel
theorem dX8_twoOf_209 : decode cX8_twoOf 209 = .ok (.ifCond .eq 7, 3) := by decide +kernel
theorem dX8_twoOf_212 : decode cX8_twoOf 212 = .ok (.iconst 1, 1) := by decide +kernel
theorem dX8_twoOf_213 : decode cX8_twoOf 213 = .ok (.goto 4, 3) := by decide +kernel
theorem dX8_twoOf_216 : decode cX8_twoOf 216 = .ok (.iconst 0, 1) := by decide +kernel
theorem dX8_twoOf_217 : decode cX8_twoOf 217 = .ok (.ireturn, 1) := by decide +kernel
theorem dX8_twoOf_218 : decode cX8_twoOf 218 = .ok (.iload_n 1, 1) := by decide +kernel
theorem dX8_twoOf_219 : decode cX8_twoOf 219 = .ok (.ifCond .ne 7, 3) := by decide +kernel
theorem dX8_twoOf_222 : decode cX8_twoOf 222 = .ok (.iload_n 2, 1) := by decide +kernel
theorem dX8_twoOf_223 : decode cX8_twoOf 223 = .ok (.ifCond .eq 7, 3) := by decide +kernel
theorem dX8_twoOf_226 : decode cX8_twoOf 226 = .ok (.iconst 1, 1) := by decide +kernel
theorem dX8_twoOf_227 : decode cX8_twoOf 227 = .ok (.goto 4, 3) := by decide +kernel
theorem dX8_twoOf_230 : decode cX8_twoOf 230 = .ok (.iconst 0, 1) := by decide +kernel
theorem dX8_twoOf_231 : decode cX8_twoOf 231 = .ok (.ireturn, 1) := by decide +kernel
theorem dX8_worked_0 : decode cX8_worked 0 = .ok (.iconst 0, 1) := by decide +kernel
theorem dX8_worked_1 : decode cX8_worked 1 = .ok (.istore 4, 2) := by decide +kernel
theorem dX8_worked_3 : decode cX8_worked 3 = .ok (.sipush 130, 3) := by decide +kernel
theorem dX8_worked_6 : decode cX8_worked 6 = .ok (.iload_n 1, 1) := by decide +kernel
theorem dX8_worked_7 : decode cX8_worked 7 = .ok (.imul, 1) := by decide +kernel
theorem dX8_worked_8 : decode cX8_worked 8 = .ok (.iload_n 2, 1) := by decide +kernel
theorem dX8_worked_9 : decode cX8_worked 9 = .ok (.iadd, 1) := by decide +kernel
theorem dX8_worked_10 : decode cX8_worked 10 = .ok (.istore 5, 2) := by decide +kernel
theorem dX8_worked_12 : decode cX8_worked 12 = .ok (.iload 5, 2) := by decide +kernel
theorem dX8_worked_14 : decode cX8_worked 14 = .ok (.sipush 130, 3) := by decide +kernel
theorem dX8_worked_17 : decode cX8_worked 17 = .ok (.iload_n 1, 1) := by decide +kernel
theorem dX8_worked_18 : decode cX8_worked 18 = .ok (.imul, 1) := by decide +kernel
theorem dX8_worked_19 : decode cX8_worked 19 = .ok (.iload_n 3, 1) := by decide +kernel
theorem dX8_worked_20 : decode cX8_worked 20 = .ok (.iadd, 1) := by decide +kernel
theorem dX8_worked_21 : decode cX8_worked 21 = .ok (.if_icmp .ge 167, 3) := by decide +kernel
theorem dX8_worked_24 : decode cX8_worked 24 = .ok (.aload_n 0, 1) := by decide +kernel
theorem dX8_worked_25 : decode cX8_worked 25 = .ok (.getfield 50, 3) := by decide +kernel
theorem dX8_worked_28 : decode cX8_worked 28 = .ok (.iload 5, 2) := by decide +kernel
theorem dX8_worked_30 : decode cX8_worked 30 = .ok (.baload, 1) := by decide +kernel
theorem dX8_worked_31 : decode cX8_worked 31 = .ok (.istore 6, 2) := by decide +kernel
theorem dX8_worked_33 : decode cX8_worked 33 = .ok (.iload 6, 2) := by decide +kernel
theorem dX8_worked_35 : decode cX8_worked 35 = .ok (.iconst 1, 1) := by decide +kernel
theorem dX8_worked_36 : decode cX8_worked 36 = .ok (.if_icmp .eq 9, 3) := by decide +kernel
theorem dX8_worked_39 : decode cX8_worked 39 = .ok (.iload 6, 2) := by decide +kernel
theorem dX8_worked_41 : decode cX8_worked 41 = .ok (.iconst 2, 1) := by decide +kernel
theorem dX8_worked_42 : decode cX8_worked 42 = .ok (.if_icmp .ne 44, 3) := by decide +kernel
theorem dX8_worked_45 : decode cX8_worked 45 = .ok (.aload_n 0, 1) := by decide +kernel
theorem dX8_worked_46 : decode cX8_worked 46 = .ok (.getfield 69, 3) := by decide +kernel
theorem dX8_worked_49 : decode cX8_worked 49 = .ok (.iload 4, 2) := by decide +kernel
theorem dX8_worked_51 : decode cX8_worked 51 = .ok (.iload 6, 2) := by decide +kernel
theorem dX8_worked_53 : decode cX8_worked 53 = .ok (.iconst 1, 1) := by decide +kernel
theorem dX8_worked_54 : decode cX8_worked 54 = .ok (.if_icmp .ne 13, 3) := by decide +kernel
theorem dX8_worked_57 : decode cX8_worked 57 = .ok (.aload_n 0, 1) := by decide +kernel
theorem dX8_worked_58 : decode cX8_worked 58 = .ok (.getfield 53, 3) := by decide +kernel
theorem dX8_worked_61 : decode cX8_worked 61 = .ok (.iload 5, 2) := by decide +kernel
theorem dX8_worked_63 : decode cX8_worked 63 = .ok (.iaload, 1) := by decide +kernel
theorem dX8_worked_64 : decode cX8_worked 64 = .ok (.goto 15, 3) := by decide +kernel
theorem dX8_worked_67 : decode cX8_worked 67 = .ok (.aload_n 0, 1) := by decide +kernel
theorem dX8_worked_68 : decode cX8_worked 68 = .ok (.getfield 66, 3) := by decide +kernel
theorem dX8_worked_71 : decode cX8_worked 71 = .ok (.aload_n 0, 1) := by decide +kernel
theorem dX8_worked_72 : decode cX8_worked 72 = .ok (.getfield 53, 3) := by decide +kernel
theorem dX8_worked_75 : decode cX8_worked 75 = .ok (.iload 5, 2) := by decide +kernel
theorem dX8_worked_77 : decode cX8_worked 77 = .ok (.iaload, 1) := by decide +kernel
theorem dX8_worked_78 : decode cX8_worked 78 = .ok (.iaload, 1) := by decide +kernel
theorem dX8_worked_79 : decode cX8_worked 79 = .ok (.iastore, 1) := by decide +kernel
theorem dX8_worked_80 : decode cX8_worked 80 = .ok (.iinc 4 1, 3) := by decide +kernel
theorem dX8_worked_83 : decode cX8_worked 83 = .ok (.goto 99, 3) := by decide +kernel
theorem dX8_worked_86 : decode cX8_worked 86 = .ok (.iload 6, 2) := by decide +kernel
theorem dX8_worked_88 : decode cX8_worked 88 = .ok (.iconst 3, 1) := by decide +kernel
theorem dX8_worked_89 : decode cX8_worked 89 = .ok (.if_icmp .ne 32, 3) := by decide +kernel
theorem dX8_worked_92 : decode cX8_worked 92 = .ok (.aload_n 0, 1) := by decide +kernel
theorem dX8_worked_93 : decode cX8_worked 93 = .ok (.getfield 69, 3) := by decide +kernel
theorem dX8_worked_96 : decode cX8_worked 96 = .ok (.iload 4, 2) := by decide +kernel
theorem dX8_worked_98 : decode cX8_worked 98 = .ok (.iconst 1, 1) := by decide +kernel
theorem dX8_worked_99 : decode cX8_worked 99 = .ok (.isub, 1) := by decide +kernel
theorem dX8_worked_100 : decode cX8_worked 100 = .ok (.aload_n 0, 1) := by decide +kernel
theorem dX8_worked_101 : decode cX8_worked 101 = .ok (.getfield 69, 3) := by decide +kernel
theorem dX8_worked_104 : decode cX8_worked 104 = .ok (.iload 4, 2) := by decide +kernel
theorem dX8_worked_106 : decode cX8_worked 106 = .ok (.iconst 1, 1) := by decide +kernel
theorem dX8_worked_107 : decode cX8_worked 107 = .ok (.isub, 1) := by decide +kernel
theorem dX8_worked_108 : decode cX8_worked 108 = .ok (.iaload, 1) := by decide +kernel
theorem dX8_worked_109 : decode cX8_worked 109 = .ok (.ifCond .ne 7, 3) := by decide +kernel
theorem dX8_worked_112 : decode cX8_worked 112 = .ok (.iconst 1, 1) := by decide +kernel
theorem dX8_worked_113 : decode cX8_worked 113 = .ok (.goto 4, 3) := by decide +kernel
theorem dX8_worked_116 : decode cX8_worked 116 = .ok (.iconst 0, 1) := by decide +kernel
theorem dX8_worked_117 : decode cX8_worked 117 = .ok (.iastore, 1) := by decide +kernel
theorem dX8_worked_118 : decode cX8_worked 118 = .ok (.goto 64, 3) := by decide +kernel
theorem dX8_worked_121 : decode cX8_worked 121 = .ok (.iload 6, 2) := by decide +kernel
theorem dX8_worked_123 : decode cX8_worked 123 = .ok (.iconst 4, 1) := by decide +kernel
theorem dX8_worked_124 : decode cX8_worked 124 = .ok (.if_icmp .ne 25, 3) := by decide +kernel
theorem dX8_worked_127 : decode cX8_worked 127 = .ok (.aload_n 0, 1) := by decide +kernel
theorem dX8_worked_128 : decode cX8_worked 128 = .ok (.getfield 69, 3) := by decide +kernel
theorem dX8_worked_131 : decode cX8_worked 131 = .ok (.iload 4, 2) := by decide +kernel
theorem dX8_worked_133 : decode cX8_worked 133 = .ok (.iconst 1, 1) := by decide +kernel
theorem dX8_worked_134 : decode cX8_worked 134 = .ok (.isub, 1) := by decide +kernel
theorem dX8_worked_135 : decode cX8_worked 135 = .ok (.aload_n 0, 1) := by decide +kernel
theorem dX8_worked_136 : decode cX8_worked 136 = .ok (.getfield 69, 3) := by decide +kernel
theorem dX8_worked_139 : decode cX8_worked 139 = .ok (.iload 4, 2) := by decide +kernel
theorem dX8_worked_141 : decode cX8_worked 141 = .ok (.iconst 1, 1) := by decide +kernel
theorem dX8_worked_142 : decode cX8_worked 142 = .ok (.isub, 1) := by decide +kernel
theorem dX8_worked_143 : decode cX8_worked 143 = .ok (.iaload, 1) := by decide +kernel
theorem dX8_worked_144 : decode cX8_worked 144 = .ok (.ineg, 1) := by decide +kernel
theorem dX8_worked_145 : decode cX8_worked 145 = .ok (.iastore, 1) := by decide +kernel
theorem dX8_worked_146 : decode cX8_worked 146 = .ok (.goto 36, 3) := by decide +kernel
theorem dX8_worked_149 : decode cX8_worked 149 = .ok (.iinc 4 (-1), 3) := by decide +kernel
theorem dX8_worked_152 : decode cX8_worked 152 = .ok (.aload_n 0, 1) := by decide +kernel
theorem dX8_worked_153 : decode cX8_worked 153 = .ok (.getfield 69, 3) := by decide +kernel
theorem dX8_worked_156 : decode cX8_worked 156 = .ok (.iload 4, 2) := by decide +kernel
theorem dX8_worked_158 : decode cX8_worked 158 = .ok (.iconst 1, 1) := by decide +kernel
theorem dX8_worked_159 : decode cX8_worked 159 = .ok (.isub, 1) := by decide +kernel
theorem dX8_worked_160 : decode cX8_worked 160 = .ok (.iload 6, 2) := by decide +kernel
theorem dX8_worked_162 : decode cX8_worked 162 = .ok (.aload_n 0, 1) := by decide +kernel
theorem dX8_worked_163 : decode cX8_worked 163 = .ok (.getfield 69, 3) := by decide +kernel
theorem dX8_worked_166 : decode cX8_worked 166 = .ok (.iload 4, 2) := by decide +kernel
theorem dX8_worked_168 : decode cX8_worked 168 = .ok (.iconst 1, 1) := by decide +kernel
theorem dX8_worked_169 : decode cX8_worked 169 = .ok (.isub, 1) := by decide +kernel
theorem dX8_worked_170 : decode cX8_worked 170 = .ok (.iaload, 1) := by decide +kernel
theorem dX8_worked_171 : decode cX8_worked 171 = .ok (.aload_n 0, 1) := by decide +kernel
theorem dX8_worked_172 : decode cX8_worked 172 = .ok (.getfield 69, 3) := by decide +kernel
theorem dX8_worked_175 : decode cX8_worked 175 = .ok (.iload 4, 2) := by decide +kernel
theorem dX8_worked_177 : decode cX8_worked 177 = .ok (.iaload, 1) := by decide +kernel
theorem dX8_worked_178 : decode cX8_worked 178 = .ok (.invokestatic 238, 3) := by decide +kernel
theorem dX8_worked_181 : decode cX8_worked 181 = .ok (.iastore, 1) := by decide +kernel
theorem dX8_worked_182 : decode cX8_worked 182 = .ok (.iinc 5 1, 3) := by decide +kernel
theorem dX8_worked_185 : decode cX8_worked 185 = .ok (.goto (-173), 3) := by decide +kernel
theorem dX8_worked_188 : decode cX8_worked 188 = .ok (.aload_n 0, 1) := by decide +kernel
theorem dX8_worked_189 : decode cX8_worked 189 = .ok (.getfield 69, 3) := by decide +kernel
theorem dX8_worked_192 : decode cX8_worked 192 = .ok (.iconst 0, 1) := by decide +kernel
theorem dX8_worked_193 : decode cX8_worked 193 = .ok (.iaload, 1) := by decide +kernel
theorem dX8_worked_194 : decode cX8_worked 194 = .ok (.ireturn, 1) := by decide +kernel
theorem dX8_gives_0 : decode cX8_gives 0 = .ok (.iconst 0, 1) := by decide +kernel
theorem dX8_gives_1 : decode cX8_gives 1 = .ok (.istore_n 2, 1) := by decide +kernel
theorem dX8_gives_2 : decode cX8_gives 2 = .ok (.bipush 61, 2) := by decide +kernel
theorem dX8_gives_4 : decode cX8_gives 4 = .ok (.iload_n 1, 1) := by decide +kernel
theorem dX8_gives_5 : decode cX8_gives 5 = .ok (.imul, 1) := by decide +kernel
theorem dX8_gives_6 : decode cX8_gives 6 = .ok (.istore_n 3, 1) := by decide +kernel
theorem dX8_gives_7 : decode cX8_gives 7 = .ok (.iload_n 3, 1) := by decide +kernel
theorem dX8_gives_8 : decode cX8_gives 8 = .ok (.bipush 61, 2) := by decide +kernel
theorem dX8_gives_10 : decode cX8_gives 10 = .ok (.iload_n 1, 1) := by decide +kernel
theorem dX8_gives_11 : decode cX8_gives 11 = .ok (.imul, 1) := by decide +kernel
theorem dX8_gives_12 : decode cX8_gives 12 = .ok (.aload_n 0, 1) := by decide +kernel
theorem dX8_gives_13 : decode cX8_gives 13 = .ok (.getfield 56, 3) := by decide +kernel
theorem dX8_gives_16 : decode cX8_gives 16 = .ok (.iload_n 1, 1) := by decide +kernel
theorem dX8_gives_17 : decode cX8_gives 17 = .ok (.iaload, 1) := by decide +kernel
theorem dX8_gives_18 : decode cX8_gives 18 = .ok (.iadd, 1) := by decide +kernel
theorem dX8_gives_19 : decode cX8_gives 19 = .ok (.if_icmp .ge 59, 3) := by decide +kernel
theorem dX8_gives_22 : decode cX8_gives 22 = .ok (.aload_n 0, 1) := by decide +kernel
theorem dX8_gives_23 : decode cX8_gives 23 = .ok (.getfield 59, 3) := by decide +kernel
theorem dX8_gives_26 : decode cX8_gives 26 = .ok (.iload_n 3, 1) := by decide +kernel
theorem dX8_gives_27 : decode cX8_gives 27 = .ok (.saload, 1) := by decide +kernel
theorem dX8_gives_28 : decode cX8_gives 28 = .ok (.iload_n 2, 1) := by decide +kernel
theorem dX8_gives_29 : decode cX8_gives 29 = .ok (.if_icmp .eq 18, 3) := by decide +kernel
theorem dX8_gives_32 : decode cX8_gives 32 = .ok (.aload_n 0, 1) := by decide +kernel
theorem dX8_gives_33 : decode cX8_gives 33 = .ok (.iload_n 1, 1) := by decide +kernel
theorem dX8_gives_34 : decode cX8_gives 34 = .ok (.iload_n 2, 1) := by decide +kernel
theorem dX8_gives_35 : decode cX8_gives 35 = .ok (.aload_n 0, 1) := by decide +kernel
theorem dX8_gives_36 : decode cX8_gives 36 = .ok (.getfield 59, 3) := by decide +kernel
theorem dX8_gives_39 : decode cX8_gives 39 = .ok (.iload_n 3, 1) := by decide +kernel
theorem dX8_gives_40 : decode cX8_gives 40 = .ok (.saload, 1) := by decide +kernel
theorem dX8_gives_41 : decode cX8_gives 41 = .ok (.invokevirtual 241, 3) := by decide +kernel
theorem dX8_gives_44 : decode cX8_gives 44 = .ok (.ifCond .eq 21, 3) := by decide +kernel
theorem dX8_gives_47 : decode cX8_gives 47 = .ok (.aload_n 0, 1) := by decide +kernel
theorem dX8_gives_48 : decode cX8_gives 48 = .ok (.iload_n 1, 1) := by decide +kernel
theorem dX8_gives_49 : decode cX8_gives 49 = .ok (.aload_n 0, 1) := by decide +kernel
theorem dX8_gives_50 : decode cX8_gives 50 = .ok (.getfield 59, 3) := by decide +kernel
theorem dX8_gives_53 : decode cX8_gives 53 = .ok (.iload_n 3, 1) := by decide +kernel
theorem dX8_gives_54 : decode cX8_gives 54 = .ok (.saload, 1) := by decide +kernel
theorem dX8_gives_55 : decode cX8_gives 55 = .ok (.aload_n 0, 1) := by decide +kernel
theorem dX8_gives_56 : decode cX8_gives 56 = .ok (.getfield 63, 3) := by decide +kernel
theorem dX8_gives_59 : decode cX8_gives 59 = .ok (.iload_n 3, 1) := by decide +kernel
theorem dX8_gives_60 : decode cX8_gives 60 = .ok (.saload, 1) := by decide +kernel
theorem dX8_gives_61 : decode cX8_gives 61 = .ok (.invokevirtual 241, 3) := by decide +kernel
theorem dX8_gives_64 : decode cX8_gives 64 = .ok (.ireturn, 1) := by decide +kernel
theorem dX8_gives_65 : decode cX8_gives 65 = .ok (.aload_n 0, 1) := by decide +kernel
theorem dX8_gives_66 : decode cX8_gives 66 = .ok (.getfield 63, 3) := by decide +kernel
theorem dX8_gives_69 : decode cX8_gives 69 = .ok (.iload_n 3, 1) := by decide +kernel
theorem dX8_gives_70 : decode cX8_gives 70 = .ok (.saload, 1) := by decide +kernel
theorem dX8_gives_71 : decode cX8_gives 71 = .ok (.istore_n 2, 1) := by decide +kernel
theorem dX8_gives_72 : decode cX8_gives 72 = .ok (.iinc 3 1, 3) := by decide +kernel
theorem dX8_gives_75 : decode cX8_gives 75 = .ok (.goto (-68), 3) := by decide +kernel
theorem dX8_gives_78 : decode cX8_gives 78 = .ok (.iconst 0, 1) := by decide +kernel
theorem dX8_gives_79 : decode cX8_gives 79 = .ok (.ireturn, 1) := by decide +kernel
theorem dX8_law_0 : decode cX8_law 0 = .ok (.aload_n 0, 1) := by decide +kernel
theorem dX8_law_1 : decode cX8_law 1 = .ok (.iconst 0, 1) := by decide +kernel
theorem dX8_law_2 : decode cX8_law 2 = .ok (.invokevirtual 244, 3) := by decide +kernel
theorem dX8_law_5 : decode cX8_law 5 = .ok (.istore_n 1, 1) := by decide +kernel
theorem dX8_law_6 : decode cX8_law 6 = .ok (.iload_n 1, 1) := by decide +kernel
theorem dX8_law_7 : decode cX8_law 7 = .ok (.ifCond .lt 8, 3) := by decide +kernel
theorem dX8_law_10 : decode cX8_law 10 = .ok (.bipush (-100), 2) := by decide +kernel
theorem dX8_law_12 : decode cX8_law 12 = .ok (.iload_n 1, 1) := by decide +kernel
theorem dX8_law_13 : decode cX8_law 13 = .ok (.isub, 1) := by decide +kernel
theorem dX8_law_14 : decode cX8_law 14 = .ok (.ireturn, 1) := by decide +kernel
theorem dX8_law_15 : decode cX8_law 15 = .ok (.aload_n 0, 1) := by decide +kernel
theorem dX8_law_16 : decode cX8_law 16 = .ok (.iconst 1, 1) := by decide +kernel
theorem dX8_law_17 : decode cX8_law 17 = .ok (.putfield 247, 3) := by decide +kernel
theorem dX8_law_20 : decode cX8_law 20 = .ok (.iconst 1, 1) := by decide +kernel
theorem dX8_law_21 : decode cX8_law 21 = .ok (.ireturn, 1) := by decide +kernel
theorem dX8_holdsFor_0 : decode cX8_holdsFor 0 = .ok (.iload 4, 2) := by decide +kernel
theorem dX8_holdsFor_2 : decode cX8_holdsFor 2 = .ok (.aload_n 0, 1) := by decide +kernel
theorem dX8_holdsFor_3 : decode cX8_holdsFor 3 = .ok (.getfield 7, 3) := by decide +kernel
theorem dX8_holdsFor_6 : decode cX8_holdsFor 6 = .ok (.iload_n 1, 1) := by decide +kernel
theorem dX8_holdsFor_7 : decode cX8_holdsFor 7 = .ok (.iaload, 1) := by decide +kernel
theorem dX8_holdsFor_8 : decode cX8_holdsFor 8 = .ok (.isub, 1) := by decide +kernel
theorem dX8_holdsFor_9 : decode cX8_holdsFor 9 = .ok (.istore 5, 2) := by decide +kernel
theorem dX8_holdsFor_11 : decode cX8_holdsFor 11 = .ok (.iload_n 1, 1) := by decide +kernel
theorem dX8_holdsFor_12 : decode cX8_holdsFor 12 = .ok (.iload_n 2, 1) := by decide +kernel
theorem dX8_holdsFor_13 : decode cX8_holdsFor 13 = .ok (.if_icmp .ne 7, 3) := by decide +kernel
theorem dX8_holdsFor_16 : decode cX8_holdsFor 16 = .ok (.iconst 1, 1) := by decide +kernel
theorem dX8_holdsFor_17 : decode cX8_holdsFor 17 = .ok (.goto 4, 3) := by decide +kernel
theorem dX8_holdsFor_20 : decode cX8_holdsFor 20 = .ok (.iconst 0, 1) := by decide +kernel
theorem dX8_holdsFor_21 : decode cX8_holdsFor 21 = .ok (.istore 6, 2) := by decide +kernel
theorem dX8_holdsFor_23 : decode cX8_holdsFor 23 = .ok (.aload_n 0, 1) := by decide +kernel
theorem dX8_holdsFor_24 : decode cX8_holdsFor 24 = .ok (.getfield 247, 3) := by decide +kernel
theorem dX8_holdsFor_27 : decode cX8_holdsFor 27 = .ok (.ifCond .ne 22, 3) := by decide +kernel
theorem dX8_holdsFor_30 : decode cX8_holdsFor 30 = .ok (.iload 5, 2) := by decide +kernel
theorem dX8_holdsFor_32 : decode cX8_holdsFor 32 = .ok (.bipush 80, 2) := by decide +kernel
theorem dX8_holdsFor_34 : decode cX8_holdsFor 34 = .ok (.if_icmp .lt 9, 3) := by decide +kernel
theorem dX8_holdsFor_37 : decode cX8_holdsFor 37 = .ok (.iload 6, 2) := by decide +kernel
theorem dX8_holdsFor_39 : decode cX8_holdsFor 39 = .ok (.iconst 1, 1) := by decide +kernel
theorem dX8_holdsFor_40 : decode cX8_holdsFor 40 = .ok (.if_icmp .ne 7, 3) := by decide +kernel
theorem dX8_holdsFor_43 : decode cX8_holdsFor 43 = .ok (.iconst 1, 1) := by decide +kernel
theorem dX8_holdsFor_44 : decode cX8_holdsFor 44 = .ok (.goto 4, 3) := by decide +kernel
theorem dX8_holdsFor_47 : decode cX8_holdsFor 47 = .ok (.iconst 0, 1) := by decide +kernel
theorem dX8_holdsFor_48 : decode cX8_holdsFor 48 = .ok (.ireturn, 1) := by decide +kernel
theorem dX8_holdsFor_49 : decode cX8_holdsFor 49 = .ok (.aload_n 0, 1) := by decide +kernel
theorem dX8_holdsFor_50 : decode cX8_holdsFor 50 = .ok (.getfield 66, 3) := by decide +kernel
theorem dX8_holdsFor_53 : decode cX8_holdsFor 53 = .ok (.iconst 0, 1) := by decide +kernel
theorem dX8_holdsFor_54 : decode cX8_holdsFor 54 = .ok (.iload 5, 2) := by decide +kernel
theorem dX8_holdsFor_56 : decode cX8_holdsFor 56 = .ok (.iastore, 1) := by decide +kernel
theorem dX8_holdsFor_57 : decode cX8_holdsFor 57 = .ok (.aload_n 0, 1) := by decide +kernel
theorem dX8_holdsFor_58 : decode cX8_holdsFor 58 = .ok (.getfield 66, 3) := by decide +kernel
theorem dX8_holdsFor_61 : decode cX8_holdsFor 61 = .ok (.iconst 1, 1) := by decide +kernel
theorem dX8_holdsFor_62 : decode cX8_holdsFor 62 = .ok (.iload 4, 2) := by decide +kernel
theorem dX8_holdsFor_64 : decode cX8_holdsFor 64 = .ok (.aload_n 0, 1) := by decide +kernel
theorem dX8_holdsFor_65 : decode cX8_holdsFor 65 = .ok (.getfield 13, 3) := by decide +kernel
theorem dX8_holdsFor_68 : decode cX8_holdsFor 68 = .ok (.iload_n 2, 1) := by decide +kernel
theorem dX8_holdsFor_69 : decode cX8_holdsFor 69 = .ok (.iaload, 1) := by decide +kernel
theorem dX8_holdsFor_70 : decode cX8_holdsFor 70 = .ok (.if_icmp .le 15, 3) := by decide +kernel
theorem dX8_holdsFor_73 : decode cX8_holdsFor 73 = .ok (.iload 4, 2) := by decide +kernel
theorem dX8_holdsFor_75 : decode cX8_holdsFor 75 = .ok (.aload_n 0, 1) := by decide +kernel
theorem dX8_holdsFor_76 : decode cX8_holdsFor 76 = .ok (.getfield 13, 3) := by decide +kernel
theorem dX8_holdsFor_79 : decode cX8_holdsFor 79 = .ok (.iload_n 2, 1) := by decide +kernel
theorem dX8_holdsFor_80 : decode cX8_holdsFor 80 = .ok (.iaload, 1) := by decide +kernel
theorem dX8_holdsFor_81 : decode cX8_holdsFor 81 = .ok (.isub, 1) := by decide +kernel
theorem dX8_holdsFor_82 : decode cX8_holdsFor 82 = .ok (.goto 4, 3) := by decide +kernel
theorem dX8_holdsFor_85 : decode cX8_holdsFor 85 = .ok (.iconst 0, 1) := by decide +kernel
theorem dX8_holdsFor_86 : decode cX8_holdsFor 86 = .ok (.iastore, 1) := by decide +kernel
theorem dX8_holdsFor_87 : decode cX8_holdsFor 87 = .ok (.aload_n 0, 1) := by decide +kernel
theorem dX8_holdsFor_88 : decode cX8_holdsFor 88 = .ok (.getfield 66, 3) := by decide +kernel
theorem dX8_holdsFor_91 : decode cX8_holdsFor 91 = .ok (.iconst 2, 1) := by decide +kernel
theorem dX8_holdsFor_92 : decode cX8_holdsFor 92 = .ok (.aload_n 0, 1) := by decide +kernel
theorem dX8_holdsFor_93 : decode cX8_holdsFor 93 = .ok (.getfield 31, 3) := by decide +kernel
theorem dX8_holdsFor_96 : decode cX8_holdsFor 96 = .ok (.iload_n 3, 1) := by decide +kernel
theorem dX8_holdsFor_97 : decode cX8_holdsFor 97 = .ok (.iaload, 1) := by decide +kernel
theorem dX8_holdsFor_98 : decode cX8_holdsFor 98 = .ok (.iastore, 1) := by decide +kernel
theorem dX8_holdsFor_99 : decode cX8_holdsFor 99 = .ok (.aload_n 0, 1) := by decide +kernel
theorem dX8_holdsFor_100 : decode cX8_holdsFor 100 = .ok (.getfield 66, 3) := by decide +kernel
theorem dX8_holdsFor_103 : decode cX8_holdsFor 103 = .ok (.iconst 3, 1) := by decide +kernel
theorem dX8_holdsFor_104 : decode cX8_holdsFor 104 = .ok (.aload_n 0, 1) := by decide +kernel
theorem dX8_holdsFor_105 : decode cX8_holdsFor 105 = .ok (.getfield 28, 3) := by decide +kernel
theorem dX8_holdsFor_108 : decode cX8_holdsFor 108 = .ok (.iload_n 3, 1) := by decide +kernel
theorem dX8_holdsFor_109 : decode cX8_holdsFor 109 = .ok (.iaload, 1) := by decide +kernel
theorem dX8_holdsFor_110 : decode cX8_holdsFor 110 = .ok (.iastore, 1) := by decide +kernel
theorem dX8_holdsFor_111 : decode cX8_holdsFor 111 = .ok (.aload_n 0, 1) := by decide +kernel
theorem dX8_holdsFor_112 : decode cX8_holdsFor 112 = .ok (.getfield 66, 3) := by decide +kernel
theorem dX8_holdsFor_115 : decode cX8_holdsFor 115 = .ok (.iconst 4, 1) := by decide +kernel
theorem dX8_holdsFor_116 : decode cX8_holdsFor 116 = .ok (.iload 6, 2) := by decide +kernel
theorem dX8_holdsFor_118 : decode cX8_holdsFor 118 = .ok (.iastore, 1) := by decide +kernel
theorem dX8_holdsFor_119 : decode cX8_holdsFor 119 = .ok (.aload_n 0, 1) := by decide +kernel
theorem dX8_holdsFor_120 : decode cX8_holdsFor 120 = .ok (.getfield 66, 3) := by decide +kernel
theorem dX8_holdsFor_123 : decode cX8_holdsFor 123 = .ok (.iconst 5, 1) := by decide +kernel
theorem dX8_holdsFor_124 : decode cX8_holdsFor 124 = .ok (.iload_n 3, 1) := by decide +kernel
theorem dX8_holdsFor_125 : decode cX8_holdsFor 125 = .ok (.iastore, 1) := by decide +kernel
theorem dX8_holdsFor_126 : decode cX8_holdsFor 126 = .ok (.aload_n 0, 1) := by decide +kernel
theorem dX8_holdsFor_127 : decode cX8_holdsFor 127 = .ok (.iconst 0, 1) := by decide +kernel
theorem dX8_holdsFor_128 : decode cX8_holdsFor 128 = .ok (.invokevirtual 251, 3) := by decide +kernel
theorem dX8_holdsFor_131 : decode cX8_holdsFor 131 = .ok (.ifCond .eq 7, 3) := by decide +kernel
theorem dX8_holdsFor_134 : decode cX8_holdsFor 134 = .ok (.iconst 1, 1) := by decide +kernel
theorem dX8_holdsFor_135 : decode cX8_holdsFor 135 = .ok (.goto 4, 3) := by decide +kernel
theorem dX8_holdsFor_138 : decode cX8_holdsFor 138 = .ok (.iconst 0, 1) := by decide +kernel
theorem dX8_holdsFor_139 : decode cX8_holdsFor 139 = .ok (.ireturn, 1) := by decide +kernel
theorem dX8_findKnown_0 : decode cX8_findKnown 0 = .ok (.iconst 0, 1) := by decide +kernel
theorem dX8_findKnown_1 : decode cX8_findKnown 1 = .ok (.istore_n 3, 1) := by decide +kernel
theorem dX8_findKnown_2 : decode cX8_findKnown 2 = .ok (.iload_n 3, 1) := by decide +kernel
theorem dX8_findKnown_3 : decode cX8_findKnown 3 = .ok (.aload_n 0, 1) := by decide +kernel
theorem dX8_findKnown_4 : decode cX8_findKnown 4 = .ok (.getfield 111, 3) := by decide +kernel
theorem dX8_findKnown_7 : decode cX8_findKnown 7 = .ok (.if_icmp .ge 18, 3) := by decide +kernel
theorem dX8_findKnown_10 : decode cX8_findKnown 10 = .ok (.aload_n 0, 1) := by decide +kernel
theorem dX8_findKnown_11 : decode cX8_findKnown 11 = .ok (.getfield 72, 3) := by decide +kernel
theorem dX8_findKnown_14 : decode cX8_findKnown 14 = .ok (.iload_n 3, 1) := by decide +kernel
theorem dX8_findKnown_15 : decode cX8_findKnown 15 = .ok (.iconst 1, 1) := by decide +kernel
theorem dX8_findKnown_16 : decode cX8_findKnown 16 = .ok (.iload_n 3, 1) := by decide +kernel
theorem dX8_findKnown_17 : decode cX8_findKnown 17 = .ok (.ishl, 1) := by decide +kernel
theorem dX8_findKnown_18 : decode cX8_findKnown 18 = .ok (.iastore, 1) := by decide +kernel
theorem dX8_findKnown_19 : decode cX8_findKnown 19 = .ok (.iinc 3 1, 3) := by decide +kernel
theorem dX8_findKnown_22 : decode cX8_findKnown 22 = .ok (.goto (-20), 3) := by decide +kernel
theorem dX8_findKnown_25 : decode cX8_findKnown 25 = .ok (.iconst 0, 1) := by decide +kernel
theorem dX8_findKnown_26 : decode cX8_findKnown 26 = .ok (.istore_n 3, 1) := by decide +kernel
theorem dX8_findKnown_27 : decode cX8_findKnown 27 = .ok (.iload_n 3, 1) := by decide +kernel
theorem dX8_findKnown_28 : decode cX8_findKnown 28 = .ok (.aload_n 0, 1) := by decide +kernel
theorem dX8_findKnown_29 : decode cX8_findKnown 29 = .ok (.getfield 141, 3) := by decide +kernel
theorem dX8_findKnown_32 : decode cX8_findKnown 32 = .ok (.if_icmp .ge 47, 3) := by decide +kernel
theorem dX8_findKnown_35 : decode cX8_findKnown 35 = .ok (.aload_n 0, 1) := by decide +kernel
theorem dX8_findKnown_36 : decode cX8_findKnown 36 = .ok (.getfield 75, 3) := by decide +kernel
theorem dX8_findKnown_39 : decode cX8_findKnown 39 = .ok (.iload_n 3, 1) := by decide +kernel
theorem dX8_findKnown_40 : decode cX8_findKnown 40 = .ok (.aload_n 0, 1) := by decide +kernel
theorem dX8_findKnown_41 : decode cX8_findKnown 41 = .ok (.getfield 25, 3) := by decide +kernel
theorem dX8_findKnown_44 : decode cX8_findKnown 44 = .ok (.iload_n 3, 1) := by decide +kernel
theorem dX8_findKnown_45 : decode cX8_findKnown 45 = .ok (.iaload, 1) := by decide +kernel
theorem dX8_findKnown_46 : decode cX8_findKnown 46 = .ok (.iload_n 1, 1) := by decide +kernel
theorem dX8_findKnown_47 : decode cX8_findKnown 47 = .ok (.if_icmp .gt 20, 3) := by decide +kernel
theorem dX8_findKnown_50 : decode cX8_findKnown 50 = .ok (.iload_n 2, 1) := by decide +kernel
theorem dX8_findKnown_51 : decode cX8_findKnown 51 = .ok (.iload_n 3, 1) := by decide +kernel
theorem dX8_findKnown_52 : decode cX8_findKnown 52 = .ok (.ishr, 1) := by decide +kernel
theorem dX8_findKnown_53 : decode cX8_findKnown 53 = .ok (.iconst 1, 1) := by decide +kernel
theorem dX8_findKnown_54 : decode cX8_findKnown 54 = .ok (.iand, 1) := by decide +kernel
theorem dX8_findKnown_55 : decode cX8_findKnown 55 = .ok (.iconst 1, 1) := by decide +kernel
theorem dX8_findKnown_56 : decode cX8_findKnown 56 = .ok (.if_icmp .eq 11, 3) := by decide +kernel
theorem dX8_findKnown_59 : decode cX8_findKnown 59 = .ok (.aload_n 0, 1) := by decide +kernel
theorem dX8_findKnown_60 : decode cX8_findKnown 60 = .ok (.iload_n 3, 1) := by decide +kernel
theorem dX8_findKnown_61 : decode cX8_findKnown 61 = .ok (.invokevirtual 178, 3) := by decide +kernel
theorem dX8_findKnown_64 : decode cX8_findKnown 64 = .ok (.ifCond .ne 7, 3) := by decide +kernel
theorem dX8_findKnown_67 : decode cX8_findKnown 67 = .ok (.iconst 1, 1) := by decide +kernel
theorem dX8_findKnown_68 : decode cX8_findKnown 68 = .ok (.goto 4, 3) := by decide +kernel
theorem dX8_findKnown_71 : decode cX8_findKnown 71 = .ok (.iconst 0, 1) := by decide +kernel
theorem dX8_findKnown_72 : decode cX8_findKnown 72 = .ok (.bastore, 1) := by decide +kernel
theorem dX8_findKnown_73 : decode cX8_findKnown 73 = .ok (.iinc 3 1, 3) := by decide +kernel
theorem dX8_findKnown_76 : decode cX8_findKnown 76 = .ok (.goto (-49), 3) := by decide +kernel
theorem dX8_findKnown_79 : decode cX8_findKnown 79 = .ok (.iconst 1, 1) := by decide +kernel
theorem dX8_findKnown_80 : decode cX8_findKnown 80 = .ok (.istore_n 3, 1) := by decide +kernel
theorem dX8_findKnown_81 : decode cX8_findKnown 81 = .ok (.iload_n 3, 1) := by decide +kernel
theorem dX8_findKnown_82 : decode cX8_findKnown 82 = .ok (.ifCond .eq 178, 3) := by decide +kernel
theorem dX8_findKnown_85 : decode cX8_findKnown 85 = .ok (.iconst (-1), 1) := by decide +kernel
theorem dX8_findKnown_86 : decode cX8_findKnown 86 = .ok (.istore 4, 2) := by decide +kernel
theorem dX8_findKnown_88 : decode cX8_findKnown 88 = .ok (.iconst 0, 1) := by decide +kernel
theorem dX8_findKnown_89 : decode cX8_findKnown 89 = .ok (.istore 5, 2) := by decide +kernel
theorem dX8_findKnown_91 : decode cX8_findKnown 91 = .ok (.iload 5, 2) := by decide +kernel
theorem dX8_findKnown_93 : decode cX8_findKnown 93 = .ok (.aload_n 0, 1) := by decide +kernel
theorem dX8_findKnown_94 : decode cX8_findKnown 94 = .ok (.getfield 141, 3) := by decide +kernel
theorem dX8_findKnown_97 : decode cX8_findKnown 97 = .ok (.if_icmp .ge 45, 3) := by decide +kernel
theorem dX8_findKnown_100 : decode cX8_findKnown 100 = .ok (.aload_n 0, 1) := by decide +kernel
theorem dX8_findKnown_101 : decode cX8_findKnown 101 = .ok (.getfield 75, 3) := by decide +kernel
theorem dX8_findKnown_104 : decode cX8_findKnown 104 = .ok (.iload 5, 2) := by decide +kernel
theorem dX8_findKnown_106 : decode cX8_findKnown 106 = .ok (.baload, 1) := by decide +kernel
theorem dX8_findKnown_107 : decode cX8_findKnown 107 = .ok (.ifCond .ne 29, 3) := by decide +kernel
theorem dX8_findKnown_110 : decode cX8_findKnown 110 = .ok (.iload 4, 2) := by decide +kernel
theorem dX8_findKnown_112 : decode cX8_findKnown 112 = .ok (.ifCond .lt 20, 3) := by decide +kernel
theorem dX8_findKnown_115 : decode cX8_findKnown 115 = .ok (.aload_n 0, 1) := by decide +kernel
theorem dX8_findKnown_116 : decode cX8_findKnown 116 = .ok (.getfield 25, 3) := by decide +kernel
theorem dX8_findKnown_119 : decode cX8_findKnown 119 = .ok (.iload 5, 2) := by decide +kernel
theorem dX8_findKnown_121 : decode cX8_findKnown 121 = .ok (.iaload, 1) := by decide +kernel
theorem dX8_findKnown_122 : decode cX8_findKnown 122 = .ok (.aload_n 0, 1) := by decide +kernel
theorem dX8_findKnown_123 : decode cX8_findKnown 123 = .ok (.getfield 25, 3) := by decide +kernel
theorem dX8_findKnown_126 : decode cX8_findKnown 126 = .ok (.iload 4, 2) := by decide +kernel
theorem dX8_findKnown_128 : decode cX8_findKnown 128 = .ok (.iaload, 1) := by decide +kernel
theorem dX8_findKnown_129 : decode cX8_findKnown 129 = .ok (.if_icmp .ge 7, 3) := by decide +kernel
theorem dX8_findKnown_132 : decode cX8_findKnown 132 = .ok (.iload 5, 2) := by decide +kernel
theorem dX8_findKnown_134 : decode cX8_findKnown 134 = .ok (.istore 4, 2) := by decide +kernel
theorem dX8_findKnown_136 : decode cX8_findKnown 136 = .ok (.iinc 5 1, 3) := by decide +kernel
theorem dX8_findKnown_139 : decode cX8_findKnown 139 = .ok (.goto (-48), 3) := by decide +kernel
theorem dX8_findKnown_142 : decode cX8_findKnown 142 = .ok (.iload 4, 2) := by decide +kernel
theorem dX8_findKnown_144 : decode cX8_findKnown 144 = .ok (.ifCond .lt 7, 3) := by decide +kernel
theorem dX8_findKnown_147 : decode cX8_findKnown 147 = .ok (.iconst 1, 1) := by decide +kernel
theorem dX8_findKnown_148 : decode cX8_findKnown 148 = .ok (.goto 4, 3) := by decide +kernel
theorem dX8_findKnown_151 : decode cX8_findKnown 151 = .ok (.iconst 0, 1) := by decide +kernel
theorem dX8_findKnown_152 : decode cX8_findKnown 152 = .ok (.istore_n 3, 1) := by decide +kernel
theorem dX8_findKnown_153 : decode cX8_findKnown 153 = .ok (.iload_n 3, 1) := by decide +kernel
theorem dX8_findKnown_154 : decode cX8_findKnown 154 = .ok (.ifCond .ne 6, 3) := by decide +kernel
theorem dX8_findKnown_157 : decode cX8_findKnown 157 = .ok (.goto (-76), 3) := by decide +kernel
theorem dX8_findKnown_160 : decode cX8_findKnown 160 = .ok (.aload_n 0, 1) := by decide +kernel
theorem dX8_findKnown_161 : decode cX8_findKnown 161 = .ok (.getfield 75, 3) := by decide +kernel
theorem dX8_findKnown_164 : decode cX8_findKnown 164 = .ok (.iload 4, 2) := by decide +kernel
theorem dX8_findKnown_166 : decode cX8_findKnown 166 = .ok (.iconst 1, 1) := by decide +kernel
theorem dX8_findKnown_167 : decode cX8_findKnown 167 = .ok (.bastore, 1) := by decide +kernel
theorem dX8_findKnown_168 : decode cX8_findKnown 168 = .ok (.aload_n 0, 1) := by decide +kernel
theorem dX8_findKnown_169 : decode cX8_findKnown 169 = .ok (.getfield 19, 3) := by decide +kernel
theorem dX8_findKnown_172 : decode cX8_findKnown 172 = .ok (.iload 4, 2) := by decide +kernel
theorem dX8_findKnown_174 : decode cX8_findKnown 174 = .ok (.iaload, 1) := by decide +kernel
theorem dX8_findKnown_175 : decode cX8_findKnown 175 = .ok (.istore 5, 2) := by decide +kernel
theorem dX8_findKnown_177 : decode cX8_findKnown 177 = .ok (.aload_n 0, 1) := by decide +kernel
theorem dX8_findKnown_178 : decode cX8_findKnown 178 = .ok (.getfield 22, 3) := by decide +kernel
theorem dX8_findKnown_181 : decode cX8_findKnown 181 = .ok (.iload 4, 2) := by decide +kernel
theorem dX8_findKnown_183 : decode cX8_findKnown 183 = .ok (.iaload, 1) := by decide +kernel
theorem dX8_findKnown_184 : decode cX8_findKnown 184 = .ok (.istore 6, 2) := by decide +kernel
theorem dX8_findKnown_186 : decode cX8_findKnown 186 = .ok (.aload_n 0, 1) := by decide +kernel
theorem dX8_findKnown_187 : decode cX8_findKnown 187 = .ok (.getfield 72, 3) := by decide +kernel
theorem dX8_findKnown_190 : decode cX8_findKnown 190 = .ok (.iload 5, 2) := by decide +kernel
theorem dX8_findKnown_192 : decode cX8_findKnown 192 = .ok (.iaload, 1) := by decide +kernel
theorem dX8_findKnown_193 : decode cX8_findKnown 193 = .ok (.aload_n 0, 1) := by decide +kernel
theorem dX8_findKnown_194 : decode cX8_findKnown 194 = .ok (.getfield 72, 3) := by decide +kernel
theorem dX8_findKnown_197 : decode cX8_findKnown 197 = .ok (.iload 6, 2) := by decide +kernel
theorem dX8_findKnown_199 : decode cX8_findKnown 199 = .ok (.iaload, 1) := by decide +kernel
theorem dX8_findKnown_200 : decode cX8_findKnown 200 = .ok (.ior, 1) := by decide +kernel
theorem dX8_findKnown_201 : decode cX8_findKnown 201 = .ok (.istore 7, 2) := by decide +kernel
theorem dX8_findKnown_203 : decode cX8_findKnown 203 = .ok (.aload_n 0, 1) := by decide +kernel
theorem dX8_findKnown_204 : decode cX8_findKnown 204 = .ok (.getfield 72, 3) := by decide +kernel
theorem dX8_findKnown_207 : decode cX8_findKnown 207 = .ok (.iload 5, 2) := by decide +kernel
theorem dX8_findKnown_209 : decode cX8_findKnown 209 = .ok (.dup2, 1) := by decide +kernel
theorem dX8_findKnown_210 : decode cX8_findKnown 210 = .ok (.iaload, 1) := by decide +kernel
theorem dX8_findKnown_211 : decode cX8_findKnown 211 = .ok (.aload_n 0, 1) := by decide +kernel
theorem dX8_findKnown_212 : decode cX8_findKnown 212 = .ok (.getfield 144, 3) := by decide +kernel
theorem dX8_findKnown_215 : decode cX8_findKnown 215 = .ok (.iconst 1, 1) := by decide +kernel
theorem dX8_findKnown_216 : decode cX8_findKnown 216 = .ok (.if_icmp .ne 8, 3) := by decide +kernel
theorem dX8_findKnown_219 : decode cX8_findKnown 219 = .ok (.iload 7, 2) := by decide +kernel
theorem dX8_findKnown_221 : decode cX8_findKnown 221 = .ok (.goto 7, 3) := by decide +kernel
theorem dX8_findKnown_224 : decode cX8_findKnown 224 = .ok (.iconst 1, 1) := by decide +kernel
theorem dX8_findKnown_225 : decode cX8_findKnown 225 = .ok (.iload 6, 2) := by decide +kernel
theorem dX8_findKnown_227 : decode cX8_findKnown 227 = .ok (.ishl, 1) := by decide +kernel
theorem dX8_findKnown_228 : decode cX8_findKnown 228 = .ok (.ior, 1) := by decide +kernel
theorem dX8_findKnown_229 : decode cX8_findKnown 229 = .ok (.iastore, 1) := by decide +kernel
theorem dX8_findKnown_230 : decode cX8_findKnown 230 = .ok (.aload_n 0, 1) := by decide +kernel
theorem dX8_findKnown_231 : decode cX8_findKnown 231 = .ok (.getfield 72, 3) := by decide +kernel
theorem dX8_findKnown_234 : decode cX8_findKnown 234 = .ok (.iload 6, 2) := by decide +kernel
theorem dX8_findKnown_236 : decode cX8_findKnown 236 = .ok (.dup2, 1) := by decide +kernel
theorem dX8_findKnown_237 : decode cX8_findKnown 237 = .ok (.iaload, 1) := by decide +kernel
theorem dX8_findKnown_238 : decode cX8_findKnown 238 = .ok (.aload_n 0, 1) := by decide +kernel
theorem dX8_findKnown_239 : decode cX8_findKnown 239 = .ok (.getfield 144, 3) := by decide +kernel
theorem dX8_findKnown_242 : decode cX8_findKnown 242 = .ok (.iconst 1, 1) := by decide +kernel
theorem dX8_findKnown_243 : decode cX8_findKnown 243 = .ok (.if_icmp .ne 8, 3) := by decide +kernel
theorem dX8_findKnown_246 : decode cX8_findKnown 246 = .ok (.iload 7, 2) := by decide +kernel
theorem dX8_findKnown_248 : decode cX8_findKnown 248 = .ok (.goto 7, 3) := by decide +kernel
theorem dX8_findKnown_251 : decode cX8_findKnown 251 = .ok (.iconst 1, 1) := by decide +kernel
theorem dX8_findKnown_252 : decode cX8_findKnown 252 = .ok (.iload 5, 2) := by decide +kernel
theorem dX8_findKnown_254 : decode cX8_findKnown 254 = .ok (.ishl, 1) := by decide +kernel
theorem dX8_findKnown_255 : decode cX8_findKnown 255 = .ok (.ior, 1) := by decide +kernel
theorem dX8_findKnown_256 : decode cX8_findKnown 256 = .ok (.iastore, 1) := by decide +kernel
theorem dX8_findKnown_257 : decode cX8_findKnown 257 = .ok (.goto (-176), 3) := by decide +kernel
theorem dX8_findKnown_260 : decode cX8_findKnown 260 = .ok (.return_, 1) := by decide +kernel
theorem dX8_knows_0 : decode cX8_knows 0 = .ok (.aload_n 0, 1) := by decide +kernel
theorem dX8_knows_1 : decode cX8_knows 1 = .ok (.iload_n 1, 1) := by decide +kernel
theorem dX8_knows_2 : decode cX8_knows 2 = .ok (.invokevirtual 135, 3) := by decide +kernel
theorem dX8_knows_5 : decode cX8_knows 5 = .ok (.ifCond .eq 10, 3) := by decide +kernel
theorem dX8_knows_8 : decode cX8_knows 8 = .ok (.iload_n 2, 1) := by decide +kernel
theorem dX8_knows_9 : decode cX8_knows 9 = .ok (.invokestatic 118, 3) := by decide +kernel
theorem dX8_knows_12 : decode cX8_knows 12 = .ok (.ifCond .ne 5, 3) := by decide +kernel
theorem dX8_knows_15 : decode cX8_knows 15 = .ok (.iconst (-1), 1) := by decide +kernel
theorem dX8_knows_16 : decode cX8_knows 16 = .ok (.ireturn, 1) := by decide +kernel
theorem dX8_knows_17 : decode cX8_knows 17 = .ok (.aload_n 0, 1) := by decide +kernel
theorem dX8_knows_18 : decode cX8_knows 18 = .ok (.iload_n 2, 1) := by decide +kernel
theorem dX8_knows_19 : decode cX8_knows 19 = .ok (.iconst 0, 1) := by decide +kernel
theorem dX8_knows_20 : decode cX8_knows 20 = .ok (.invokevirtual 254, 3) := by decide +kernel
theorem dX8_knows_23 : decode cX8_knows 23 = .ok (.aload_n 0, 1) := by decide +kernel
theorem dX8_knows_24 : decode cX8_knows 24 = .ok (.getfield 72, 3) := by decide +kernel
theorem dX8_knows_27 : decode cX8_knows 27 = .ok (.iload_n 1, 1) := by decide +kernel
theorem dX8_knows_28 : decode cX8_knows 28 = .ok (.iaload, 1) := by decide +kernel
theorem dX8_knows_29 : decode cX8_knows 29 = .ok (.ireturn, 1) := by decide +kernel
theorem dX8_asNamed_0 : decode cX8_asNamed 0 = .ok (.iconst 0, 1) := by decide +kernel
theorem dX8_asNamed_1 : decode cX8_asNamed 1 = .ok (.istore_n 1, 1) := by decide +kernel
theorem dX8_asNamed_2 : decode cX8_asNamed 2 = .ok (.iload_n 1, 1) := by decide +kernel
theorem dX8_asNamed_3 : decode cX8_asNamed 3 = .ok (.bipush 12, 2) := by decide +kernel
theorem dX8_asNamed_5 : decode cX8_asNamed 5 = .ok (.if_icmp .ge 33, 3) := by decide +kernel
theorem dX8_asNamed_8 : decode cX8_asNamed 8 = .ok (.aload_n 0, 1) := by decide +kernel
theorem dX8_asNamed_9 : decode cX8_asNamed 9 = .ok (.getfield 79, 3) := by decide +kernel
theorem dX8_asNamed_12 : decode cX8_asNamed 12 = .ok (.iload_n 1, 1) := by decide +kernel
theorem dX8_asNamed_13 : decode cX8_asNamed 13 = .ok (.iload_n 1, 1) := by decide +kernel
theorem dX8_asNamed_14 : decode cX8_asNamed 14 = .ok (.aload_n 0, 1) := by decide +kernel
theorem dX8_asNamed_15 : decode cX8_asNamed 15 = .ok (.getfield 111, 3) := by decide +kernel
theorem dX8_asNamed_18 : decode cX8_asNamed 18 = .ok (.if_icmp .ge 12, 3) := by decide +kernel
theorem dX8_asNamed_21 : decode cX8_asNamed 21 = .ok (.aload_n 0, 1) := by decide +kernel
theorem dX8_asNamed_22 : decode cX8_asNamed 22 = .ok (.getfield 16, 3) := by decide +kernel
theorem dX8_asNamed_25 : decode cX8_asNamed 25 = .ok (.iload_n 1, 1) := by decide +kernel
theorem dX8_asNamed_26 : decode cX8_asNamed 26 = .ok (.iaload, 1) := by decide +kernel
theorem dX8_asNamed_27 : decode cX8_asNamed 27 = .ok (.goto 4, 3) := by decide +kernel
theorem dX8_asNamed_30 : decode cX8_asNamed 30 = .ok (.iconst (-1), 1) := by decide +kernel
theorem dX8_asNamed_31 : decode cX8_asNamed 31 = .ok (.iastore, 1) := by decide +kernel
theorem dX8_asNamed_32 : decode cX8_asNamed 32 = .ok (.iinc 1 1, 3) := by decide +kernel
theorem dX8_asNamed_35 : decode cX8_asNamed 35 = .ok (.goto (-33), 3) := by decide +kernel
theorem dX8_asNamed_38 : decode cX8_asNamed 38 = .ok (.return_, 1) := by decide +kernel
theorem dX8_everybody_0 : decode cX8_everybody 0 = .ok (.iconst 1, 1) := by decide +kernel
theorem dX8_everybody_1 : decode cX8_everybody 1 = .ok (.aload_n 0, 1) := by decide +kernel
theorem dX8_everybody_2 : decode cX8_everybody 2 = .ok (.getfield 111, 3) := by decide +kernel
theorem dX8_everybody_5 : decode cX8_everybody 5 = .ok (.ishl, 1) := by decide +kernel
theorem dX8_everybody_6 : decode cX8_everybody 6 = .ok (.iconst 1, 1) := by decide +kernel
theorem dX8_everybody_7 : decode cX8_everybody 7 = .ok (.isub, 1) := by decide +kernel
theorem dX8_everybody_8 : decode cX8_everybody 8 = .ok (.ireturn, 1) := by decide +kernel
theorem dX8_bears_0 : decode cX8_bears 0 = .ok (.iload 4, 2) := by decide +kernel
theorem dX8_bears_2 : decode cX8_bears 2 = .ok (.iload_n 1, 1) := by decide +kernel
theorem dX8_bears_3 : decode cX8_bears 3 = .ok (.ishr, 1) := by decide +kernel
theorem dX8_bears_4 : decode cX8_bears 4 = .ok (.iconst 1, 1) := by decide +kernel
theorem dX8_bears_5 : decode cX8_bears 5 = .ok (.iand, 1) := by decide +kernel
theorem dX8_bears_6 : decode cX8_bears 6 = .ok (.iconst 1, 1) := by decide +kernel
theorem dX8_bears_7 : decode cX8_bears 7 = .ok (.if_icmp .ne 27, 3) := by decide +kernel
theorem dX8_bears_10 : decode cX8_bears 10 = .ok (.aload_n 0, 1) := by decide +kernel
theorem dX8_bears_11 : decode cX8_bears 11 = .ok (.getfield 79, 3) := by decide +kernel
theorem dX8_bears_14 : decode cX8_bears 14 = .ok (.iload_n 1, 1) := by decide +kernel
theorem dX8_bears_15 : decode cX8_bears 15 = .ok (.iaload, 1) := by decide +kernel
theorem dX8_bears_16 : decode cX8_bears 16 = .ok (.iload_n 2, 1) := by decide +kernel
theorem dX8_bears_17 : decode cX8_bears 17 = .ok (.if_icmp .ne 17, 3) := by decide +kernel
theorem dX8_bears_20 : decode cX8_bears 20 = .ok (.aload_n 0, 1) := by decide +kernel
theorem dX8_bears_21 : decode cX8_bears 21 = .ok (.getfield 7, 3) := by decide +kernel
theorem dX8_bears_24 : decode cX8_bears 24 = .ok (.iload_n 1, 1) := by decide +kernel
theorem dX8_bears_25 : decode cX8_bears 25 = .ok (.iaload, 1) := by decide +kernel
theorem dX8_bears_26 : decode cX8_bears 26 = .ok (.iload_n 3, 1) := by decide +kernel
theorem dX8_bears_27 : decode cX8_bears 27 = .ok (.if_icmp .gt 7, 3) := by decide +kernel
theorem dX8_bears_30 : decode cX8_bears 30 = .ok (.iconst 1, 1) := by decide +kernel
theorem dX8_bears_31 : decode cX8_bears 31 = .ok (.goto 4, 3) := by decide +kernel
theorem dX8_bears_34 : decode cX8_bears 34 = .ok (.iconst 0, 1) := by decide +kernel
theorem dX8_bears_35 : decode cX8_bears 35 = .ok (.ireturn, 1) := by decide +kernel
theorem dX8_doesHold_0 : decode cX8_doesHold 0 = .ok (.aload_n 0, 1) := by decide +kernel
theorem dX8_doesHold_1 : decode cX8_doesHold 1 = .ok (.iload_n 1, 1) := by decide +kernel
theorem dX8_doesHold_2 : decode cX8_doesHold 2 = .ok (.iload_n 3, 1) := by decide +kernel
theorem dX8_doesHold_3 : decode cX8_doesHold 3 = .ok (.invokevirtual 138, 3) := by decide +kernel
theorem dX8_doesHold_6 : decode cX8_doesHold 6 = .ok (.ifCond .ne 5, 3) := by decide +kernel
theorem dX8_doesHold_9 : decode cX8_doesHold 9 = .ok (.iconst 0, 1) := by decide +kernel
theorem dX8_doesHold_10 : decode cX8_doesHold 10 = .ok (.ireturn, 1) := by decide +kernel
theorem dX8_doesHold_11 : decode cX8_doesHold 11 = .ok (.iconst 0, 1) := by decide +kernel
theorem dX8_doesHold_12 : decode cX8_doesHold 12 = .ok (.istore 5, 2) := by decide +kernel
theorem dX8_doesHold_14 : decode cX8_doesHold 14 = .ok (.iload 5, 2) := by decide +kernel
theorem dX8_doesHold_16 : decode cX8_doesHold 16 = .ok (.aload_n 0, 1) := by decide +kernel
theorem dX8_doesHold_17 : decode cX8_doesHold 17 = .ok (.getfield 111, 3) := by decide +kernel
theorem dX8_doesHold_20 : decode cX8_doesHold 20 = .ok (.if_icmp .ge 51, 3) := by decide +kernel
theorem dX8_doesHold_23 : decode cX8_doesHold 23 = .ok (.aload_n 0, 1) := by decide +kernel
theorem dX8_doesHold_24 : decode cX8_doesHold 24 = .ok (.iload 5, 2) := by decide +kernel
theorem dX8_doesHold_26 : decode cX8_doesHold 26 = .ok (.iload_n 2, 1) := by decide +kernel
theorem dX8_doesHold_27 : decode cX8_doesHold 27 = .ok (.iload_n 3, 1) := by decide +kernel
theorem dX8_doesHold_28 : decode cX8_doesHold 28 = .ok (.iload 4, 2) := by decide +kernel
theorem dX8_doesHold_30 : decode cX8_doesHold 30 = .ok (.invokevirtual 257, 3) := by decide +kernel
theorem dX8_doesHold_33 : decode cX8_doesHold 33 = .ok (.ifCond .eq 32, 3) := by decide +kernel
theorem dX8_doesHold_36 : decode cX8_doesHold 36 = .ok (.aload_n 0, 1) := by decide +kernel
theorem dX8_doesHold_37 : decode cX8_doesHold 37 = .ok (.getfield 72, 3) := by decide +kernel
theorem dX8_doesHold_40 : decode cX8_doesHold 40 = .ok (.iload_n 1, 1) := by decide +kernel
theorem dX8_doesHold_41 : decode cX8_doesHold 41 = .ok (.iaload, 1) := by decide +kernel
theorem dX8_doesHold_42 : decode cX8_doesHold 42 = .ok (.iload 5, 2) := by decide +kernel
theorem dX8_doesHold_44 : decode cX8_doesHold 44 = .ok (.ishr, 1) := by decide +kernel
theorem dX8_doesHold_45 : decode cX8_doesHold 45 = .ok (.iconst 1, 1) := by decide +kernel
theorem dX8_doesHold_46 : decode cX8_doesHold 46 = .ok (.iand, 1) := by decide +kernel
theorem dX8_doesHold_47 : decode cX8_doesHold 47 = .ok (.iconst 1, 1) := by decide +kernel
theorem dX8_doesHold_48 : decode cX8_doesHold 48 = .ok (.if_icmp .ne 17, 3) := by decide +kernel
theorem dX8_doesHold_51 : decode cX8_doesHold 51 = .ok (.aload_n 0, 1) := by decide +kernel
theorem dX8_doesHold_52 : decode cX8_doesHold 52 = .ok (.iload_n 1, 1) := by decide +kernel
theorem dX8_doesHold_53 : decode cX8_doesHold 53 = .ok (.iload 5, 2) := by decide +kernel
theorem dX8_doesHold_55 : decode cX8_doesHold 55 = .ok (.iload_n 2, 1) := by decide +kernel
theorem dX8_doesHold_56 : decode cX8_doesHold 56 = .ok (.iload_n 3, 1) := by decide +kernel
theorem dX8_doesHold_57 : decode cX8_doesHold 57 = .ok (.invokevirtual 261, 3) := by decide +kernel
theorem dX8_doesHold_60 : decode cX8_doesHold 60 = .ok (.ifCond .eq 5, 3) := by decide +kernel
theorem dX8_doesHold_63 : decode cX8_doesHold 63 = .ok (.iconst 1, 1) := by decide +kernel
theorem dX8_doesHold_64 : decode cX8_doesHold 64 = .ok (.ireturn, 1) := by decide +kernel
theorem dX8_doesHold_65 : decode cX8_doesHold 65 = .ok (.iinc 5 1, 3) := by decide +kernel
theorem dX8_doesHold_68 : decode cX8_doesHold 68 = .ok (.goto (-54), 3) := by decide +kernel
theorem dX8_doesHold_71 : decode cX8_doesHold 71 = .ok (.iconst 0, 1) := by decide +kernel
theorem dX8_doesHold_72 : decode cX8_doesHold 72 = .ok (.ireturn, 1) := by decide +kernel
theorem dX8_holders_0 : decode cX8_holders 0 = .ok (.iconst 0, 1) := by decide +kernel
theorem dX8_holders_1 : decode cX8_holders 1 = .ok (.istore 4, 2) := by decide +kernel
theorem dX8_holders_3 : decode cX8_holders 3 = .ok (.iconst 0, 1) := by decide +kernel
theorem dX8_holders_4 : decode cX8_holders 4 = .ok (.istore 5, 2) := by decide +kernel
theorem dX8_holders_6 : decode cX8_holders 6 = .ok (.iload 5, 2) := by decide +kernel
theorem dX8_holders_8 : decode cX8_holders 8 = .ok (.aload_n 0, 1) := by decide +kernel
theorem dX8_holders_9 : decode cX8_holders 9 = .ok (.getfield 111, 3) := by decide +kernel
theorem dX8_holders_12 : decode cX8_holders 12 = .ok (.if_icmp .ge 30, 3) := by decide +kernel
theorem dX8_holders_15 : decode cX8_holders 15 = .ok (.aload_n 0, 1) := by decide +kernel
theorem dX8_holders_16 : decode cX8_holders 16 = .ok (.iload 5, 2) := by decide +kernel
theorem dX8_holders_18 : decode cX8_holders 18 = .ok (.iload_n 1, 1) := by decide +kernel
theorem dX8_holders_19 : decode cX8_holders 19 = .ok (.iload_n 2, 1) := by decide +kernel
theorem dX8_holders_20 : decode cX8_holders 20 = .ok (.iload_n 3, 1) := by decide +kernel
theorem dX8_holders_21 : decode cX8_holders 21 = .ok (.invokevirtual 264, 3) := by decide +kernel
theorem dX8_holders_24 : decode cX8_holders 24 = .ok (.ifCond .eq 12, 3) := by decide +kernel
theorem dX8_holders_27 : decode cX8_holders 27 = .ok (.iload 4, 2) := by decide +kernel
theorem dX8_holders_29 : decode cX8_holders 29 = .ok (.iconst 1, 1) := by decide +kernel
theorem dX8_holders_30 : decode cX8_holders 30 = .ok (.iload 5, 2) := by decide +kernel
theorem dX8_holders_32 : decode cX8_holders 32 = .ok (.ishl, 1) := by decide +kernel
theorem dX8_holders_33 : decode cX8_holders 33 = .ok (.ior, 1) := by decide +kernel
theorem dX8_holders_34 : decode cX8_holders 34 = .ok (.istore 4, 2) := by decide +kernel
theorem dX8_holders_36 : decode cX8_holders 36 = .ok (.iinc 5 1, 3) := by decide +kernel
theorem dX8_holders_39 : decode cX8_holders 39 = .ok (.goto (-33), 3) := by decide +kernel
theorem dX8_holders_42 : decode cX8_holders 42 = .ok (.iload 4, 2) := by decide +kernel
theorem dX8_holders_44 : decode cX8_holders 44 = .ok (.ireturn, 1) := by decide +kernel
theorem dX8_isFamous_0 : decode cX8_isFamous 0 = .ok (.iconst 0, 1) := by decide +kernel
theorem dX8_isFamous_1 : decode cX8_isFamous 1 = .ok (.istore 4, 2) := by decide +kernel
theorem dX8_isFamous_3 : decode cX8_isFamous 3 = .ok (.iload 4, 2) := by decide +kernel
theorem dX8_isFamous_5 : decode cX8_isFamous 5 = .ok (.aload_n 0, 1) := by decide +kernel
theorem dX8_isFamous_6 : decode cX8_isFamous 6 = .ok (.getfield 111, 3) := by decide +kernel
theorem dX8_isFamous_9 : decode cX8_isFamous 9 = .ok (.if_icmp .ge 33, 3) := by decide +kernel
theorem dX8_isFamous_12 : decode cX8_isFamous 12 = .ok (.aload_n 0, 1) := by decide +kernel
theorem dX8_isFamous_13 : decode cX8_isFamous 13 = .ok (.getfield 31, 3) := by decide +kernel
theorem dX8_isFamous_16 : decode cX8_isFamous 16 = .ok (.iload_n 1, 1) := by decide +kernel
theorem dX8_isFamous_17 : decode cX8_isFamous 17 = .ok (.iaload, 1) := by decide +kernel
theorem dX8_isFamous_18 : decode cX8_isFamous 18 = .ok (.iconst 1, 1) := by decide +kernel
theorem dX8_isFamous_19 : decode cX8_isFamous 19 = .ok (.if_icmp .ne 17, 3) := by decide +kernel
theorem dX8_isFamous_22 : decode cX8_isFamous 22 = .ok (.aload_n 0, 1) := by decide +kernel
theorem dX8_isFamous_23 : decode cX8_isFamous 23 = .ok (.iload 4, 2) := by decide +kernel
theorem dX8_isFamous_25 : decode cX8_isFamous 25 = .ok (.iload_n 1, 1) := by decide +kernel
theorem dX8_isFamous_26 : decode cX8_isFamous 26 = .ok (.iload_n 2, 1) := by decide +kernel
theorem dX8_isFamous_27 : decode cX8_isFamous 27 = .ok (.iload_n 3, 1) := by decide +kernel
theorem dX8_isFamous_28 : decode cX8_isFamous 28 = .ok (.invokevirtual 257, 3) := by decide +kernel
theorem dX8_isFamous_31 : decode cX8_isFamous 31 = .ok (.ifCond .eq 5, 3) := by decide +kernel
theorem dX8_isFamous_34 : decode cX8_isFamous 34 = .ok (.iconst 1, 1) := by decide +kernel
theorem dX8_isFamous_35 : decode cX8_isFamous 35 = .ok (.ireturn, 1) := by decide +kernel
theorem dX8_isFamous_36 : decode cX8_isFamous 36 = .ok (.iinc 4 1, 3) := by decide +kernel
theorem dX8_isFamous_39 : decode cX8_isFamous 39 = .ok (.goto (-36), 3) := by decide +kernel
theorem dX8_isFamous_42 : decode cX8_isFamous 42 = .ok (.iconst 0, 1) := by decide +kernel
theorem dX8_isFamous_43 : decode cX8_isFamous 43 = .ok (.ireturn, 1) := by decide +kernel
theorem dX8_isHeld_0 : decode cX8_isHeld 0 = .ok (.aload_n 0, 1) := by decide +kernel
theorem dX8_isHeld_1 : decode cX8_isHeld 1 = .ok (.iload_n 1, 1) := by decide +kernel
theorem dX8_isHeld_2 : decode cX8_isHeld 2 = .ok (.iload_n 2, 1) := by decide +kernel
theorem dX8_isHeld_3 : decode cX8_isHeld 3 = .ok (.iload_n 3, 1) := by decide +kernel
theorem dX8_isHeld_4 : decode cX8_isHeld 4 = .ok (.invokevirtual 267, 3) := by decide +kernel
theorem dX8_isHeld_7 : decode cX8_isHeld 7 = .ok (.ifCond .ne 13, 3) := by decide +kernel
theorem dX8_isHeld_10 : decode cX8_isHeld 10 = .ok (.aload_n 0, 1) := by decide +kernel
theorem dX8_isHeld_11 : decode cX8_isHeld 11 = .ok (.iload_n 1, 1) := by decide +kernel
theorem dX8_isHeld_12 : decode cX8_isHeld 12 = .ok (.iload_n 2, 1) := by decide +kernel
theorem dX8_isHeld_13 : decode cX8_isHeld 13 = .ok (.iload_n 3, 1) := by decide +kernel
theorem dX8_isHeld_14 : decode cX8_isHeld 14 = .ok (.invokevirtual 270, 3) := by decide +kernel
theorem dX8_isHeld_17 : decode cX8_isHeld 17 = .ok (.ifCond .eq 7, 3) := by decide +kernel
theorem dX8_isHeld_20 : decode cX8_isHeld 20 = .ok (.iconst 1, 1) := by decide +kernel
theorem dX8_isHeld_21 : decode cX8_isHeld 21 = .ok (.goto 4, 3) := by decide +kernel
theorem dX8_isHeld_24 : decode cX8_isHeld 24 = .ok (.iconst 0, 1) := by decide +kernel
theorem dX8_isHeld_25 : decode cX8_isHeld 25 = .ok (.ireturn, 1) := by decide +kernel
theorem dX8_held_0 : decode cX8_held 0 = .ok (.iload_n 1, 1) := by decide +kernel
theorem dX8_held_1 : decode cX8_held 1 = .ok (.invokestatic 148, 3) := by decide +kernel
theorem dX8_held_4 : decode cX8_held 4 = .ok (.ifCond .eq 19, 3) := by decide +kernel
theorem dX8_held_7 : decode cX8_held 7 = .ok (.iload_n 2, 1) := by decide +kernel
theorem dX8_held_8 : decode cX8_held 8 = .ok (.invokestatic 118, 3) := by decide +kernel
theorem dX8_held_11 : decode cX8_held 11 = .ok (.ifCond .eq 12, 3) := by decide +kernel
theorem dX8_held_14 : decode cX8_held 14 = .ok (.iload_n 3, 1) := by decide +kernel
theorem dX8_held_15 : decode cX8_held 15 = .ok (.iconst 0, 1) := by decide +kernel
theorem dX8_held_16 : decode cX8_held 16 = .ok (.iconst 2, 1) := by decide +kernel
theorem dX8_held_17 : decode cX8_held 17 = .ok (.invokestatic 114, 3) := by decide +kernel
theorem dX8_held_20 : decode cX8_held 20 = .ok (.ifCond .ne 5, 3) := by decide +kernel
theorem dX8_held_23 : decode cX8_held 23 = .ok (.iconst (-1), 1) := by decide +kernel
theorem dX8_held_24 : decode cX8_held 24 = .ok (.ireturn, 1) := by decide +kernel
theorem dX8_held_25 : decode cX8_held 25 = .ok (.aload_n 0, 1) := by decide +kernel
theorem dX8_held_26 : decode cX8_held 26 = .ok (.invokevirtual 273, 3) := by decide +kernel
theorem dX8_held_29 : decode cX8_held 29 = .ok (.iload_n 3, 1) := by decide +kernel
theorem dX8_held_30 : decode cX8_held 30 = .ok (.iconst 2, 1) := by decide +kernel
theorem dX8_held_31 : decode cX8_held 31 = .ok (.if_icmp .ne 46, 3) := by decide +kernel
theorem dX8_held_34 : decode cX8_held 34 = .ok (.iload_n 2, 1) := by decide +kernel
theorem dX8_held_35 : decode cX8_held 35 = .ok (.istore 4, 2) := by decide +kernel
theorem dX8_held_37 : decode cX8_held 37 = .ok (.iload 4, 2) := by decide +kernel
theorem dX8_held_39 : decode cX8_held 39 = .ok (.bipush 99, 2) := by decide +kernel
theorem dX8_held_41 : decode cX8_held 41 = .ok (.if_icmp .gt 33, 3) := by decide +kernel
theorem dX8_held_44 : decode cX8_held 44 = .ok (.aload_n 0, 1) := by decide +kernel
theorem dX8_held_45 : decode cX8_held 45 = .ok (.iload 4, 2) := by decide +kernel
theorem dX8_held_47 : decode cX8_held 47 = .ok (.iconst 0, 1) := by decide +kernel
theorem dX8_held_48 : decode cX8_held 48 = .ok (.invokevirtual 254, 3) := by decide +kernel
theorem dX8_held_51 : decode cX8_held 51 = .ok (.aload_n 0, 1) := by decide +kernel
theorem dX8_held_52 : decode cX8_held 52 = .ok (.iload_n 1, 1) := by decide +kernel
theorem dX8_held_53 : decode cX8_held 53 = .ok (.iload 4, 2) := by decide +kernel
theorem dX8_held_55 : decode cX8_held 55 = .ok (.aload_n 0, 1) := by decide +kernel
theorem dX8_held_56 : decode cX8_held 56 = .ok (.invokevirtual 276, 3) := by decide +kernel
theorem dX8_held_59 : decode cX8_held 59 = .ok (.invokevirtual 279, 3) := by decide +kernel
theorem dX8_held_62 : decode cX8_held 62 = .ok (.ifCond .ne 6, 3) := by decide +kernel
theorem dX8_held_65 : decode cX8_held 65 = .ok (.iload 4, 2) := by decide +kernel
theorem dX8_held_67 : decode cX8_held 67 = .ok (.ireturn, 1) := by decide +kernel
theorem dX8_held_68 : decode cX8_held 68 = .ok (.iinc 4 1, 3) := by decide +kernel
theorem dX8_held_71 : decode cX8_held 71 = .ok (.goto (-34), 3) := by decide +kernel
theorem dX8_held_74 : decode cX8_held 74 = .ok (.bipush (-2), 2) := by decide +kernel
theorem dX8_held_76 : decode cX8_held 76 = .ok (.ireturn, 1) := by decide +kernel
theorem dX8_held_77 : decode cX8_held 77 = .ok (.aload_n 0, 1) := by decide +kernel
theorem dX8_held_78 : decode cX8_held 78 = .ok (.iload_n 2, 1) := by decide +kernel
theorem dX8_held_79 : decode cX8_held 79 = .ok (.iconst 0, 1) := by decide +kernel
theorem dX8_held_80 : decode cX8_held 80 = .ok (.invokevirtual 254, 3) := by decide +kernel
theorem dX8_held_83 : decode cX8_held 83 = .ok (.iload_n 3, 1) := by decide +kernel
theorem dX8_held_84 : decode cX8_held 84 = .ok (.iconst 1, 1) := by decide +kernel
theorem dX8_held_85 : decode cX8_held 85 = .ok (.if_icmp .ne 16, 3) := by decide +kernel
theorem dX8_held_88 : decode cX8_held 88 = .ok (.aload_n 0, 1) := by decide +kernel
theorem dX8_held_89 : decode cX8_held 89 = .ok (.iload_n 1, 1) := by decide +kernel
theorem dX8_held_90 : decode cX8_held 90 = .ok (.iload_n 2, 1) := by decide +kernel
theorem dX8_held_91 : decode cX8_held 91 = .ok (.aload_n 0, 1) := by decide +kernel
theorem dX8_held_92 : decode cX8_held 92 = .ok (.invokevirtual 276, 3) := by decide +kernel
theorem dX8_held_95 : decode cX8_held 95 = .ok (.invokevirtual 270, 3) := by decide +kernel
theorem dX8_held_98 : decode cX8_held 98 = .ok (.goto 21, 3) := by decide +kernel
theorem dX8_held_101 : decode cX8_held 101 = .ok (.aload_n 0, 1) := by decide +kernel
theorem dX8_held_102 : decode cX8_held 102 = .ok (.iload_n 1, 1) := by decide +kernel
theorem dX8_held_103 : decode cX8_held 103 = .ok (.iload_n 2, 1) := by decide +kernel
theorem dX8_held_104 : decode cX8_held 104 = .ok (.aload_n 0, 1) := by decide +kernel
theorem dX8_held_105 : decode cX8_held 105 = .ok (.invokevirtual 276, 3) := by decide +kernel
theorem dX8_held_108 : decode cX8_held 108 = .ok (.invokevirtual 279, 3) := by decide +kernel
theorem dX8_held_111 : decode cX8_held 111 = .ok (.ifCond .eq 7, 3) := by decide +kernel
theorem dX8_held_114 : decode cX8_held 114 = .ok (.iconst 1, 1) := by decide +kernel
theorem dX8_held_115 : decode cX8_held 115 = .ok (.goto 4, 3) := by decide +kernel
theorem dX8_held_118 : decode cX8_held 118 = .ok (.iconst 0, 1) := by decide +kernel
theorem dX8_held_119 : decode cX8_held 119 = .ok (.ireturn, 1) := by decide +kernel
theorem dX8_heldIn_0 : decode cX8_heldIn 0 = .ok (.aload_n 0, 1) := by decide +kernel
theorem dX8_heldIn_1 : decode cX8_heldIn 1 = .ok (.iload_n 1, 1) := by decide +kernel
theorem dX8_heldIn_2 : decode cX8_heldIn 2 = .ok (.iconst 0, 1) := by decide +kernel
theorem dX8_heldIn_3 : decode cX8_heldIn 3 = .ok (.invokevirtual 254, 3) := by decide +kernel
theorem dX8_heldIn_6 : decode cX8_heldIn 6 = .ok (.iconst 0, 1) := by decide +kernel
theorem dX8_heldIn_7 : decode cX8_heldIn 7 = .ok (.istore_n 2, 1) := by decide +kernel
theorem dX8_heldIn_8 : decode cX8_heldIn 8 = .ok (.iconst 0, 1) := by decide +kernel
theorem dX8_heldIn_9 : decode cX8_heldIn 9 = .ok (.istore_n 3, 1) := by decide +kernel
theorem dX8_heldIn_10 : decode cX8_heldIn 10 = .ok (.iload_n 3, 1) := by decide +kernel
theorem dX8_heldIn_11 : decode cX8_heldIn 11 = .ok (.bipush 12, 2) := by decide +kernel
theorem dX8_heldIn_13 : decode cX8_heldIn 13 = .ok (.if_icmp .ge 28, 3) := by decide +kernel
theorem dX8_heldIn_16 : decode cX8_heldIn 16 = .ok (.aload_n 0, 1) := by decide +kernel
theorem dX8_heldIn_17 : decode cX8_heldIn 17 = .ok (.iload_n 3, 1) := by decide +kernel
theorem dX8_heldIn_18 : decode cX8_heldIn 18 = .ok (.iload_n 1, 1) := by decide +kernel
theorem dX8_heldIn_19 : decode cX8_heldIn 19 = .ok (.aload_n 0, 1) := by decide +kernel
theorem dX8_heldIn_20 : decode cX8_heldIn 20 = .ok (.invokevirtual 276, 3) := by decide +kernel
theorem dX8_heldIn_23 : decode cX8_heldIn 23 = .ok (.invokevirtual 279, 3) := by decide +kernel
theorem dX8_heldIn_26 : decode cX8_heldIn 26 = .ok (.ifCond .eq 9, 3) := by decide +kernel
theorem dX8_heldIn_29 : decode cX8_heldIn 29 = .ok (.iload_n 2, 1) := by decide +kernel
theorem dX8_heldIn_30 : decode cX8_heldIn 30 = .ok (.iconst 1, 1) := by decide +kernel
theorem dX8_heldIn_31 : decode cX8_heldIn 31 = .ok (.iload_n 3, 1) := by decide +kernel
theorem dX8_heldIn_32 : decode cX8_heldIn 32 = .ok (.ishl, 1) := by decide +kernel
theorem dX8_heldIn_33 : decode cX8_heldIn 33 = .ok (.ior, 1) := by decide +kernel
theorem dX8_heldIn_34 : decode cX8_heldIn 34 = .ok (.istore_n 2, 1) := by decide +kernel
theorem dX8_heldIn_35 : decode cX8_heldIn 35 = .ok (.iinc 3 1, 3) := by decide +kernel
theorem dX8_heldIn_38 : decode cX8_heldIn 38 = .ok (.goto (-28), 3) := by decide +kernel
theorem dX8_heldIn_41 : decode cX8_heldIn 41 = .ok (.iload_n 2, 1) := by decide +kernel
theorem dX8_heldIn_42 : decode cX8_heldIn 42 = .ok (.ireturn, 1) := by decide +kernel
theorem dX8_free_0 : decode cX8_free 0 = .ok (.iload_n 1, 1) := by decide +kernel
theorem dX8_free_1 : decode cX8_free 1 = .ok (.invokestatic 118, 3) := by decide +kernel
theorem dX8_free_4 : decode cX8_free 4 = .ok (.ifCond .ne 5, 3) := by decide +kernel
theorem dX8_free_7 : decode cX8_free 7 = .ok (.iconst (-1), 1) := by decide +kernel
theorem dX8_free_8 : decode cX8_free 8 = .ok (.ireturn, 1) := by decide +kernel
theorem dX8_free_9 : decode cX8_free 9 = .ok (.aload_n 0, 1) := by decide +kernel
theorem dX8_free_10 : decode cX8_free 10 = .ok (.invokevirtual 273, 3) := by decide +kernel
theorem dX8_free_13 : decode cX8_free 13 = .ok (.sipush 4095, 3) := by decide +kernel
theorem dX8_free_16 : decode cX8_free 16 = .ok (.aload_n 0, 1) := by decide +kernel
theorem dX8_free_17 : decode cX8_free 17 = .ok (.iload_n 1, 1) := by decide +kernel
theorem dX8_free_18 : decode cX8_free 18 = .ok (.invokevirtual 282, 3) := by decide +kernel
theorem dX8_free_21 : decode cX8_free 21 = .ok (.iconst (-1), 1) := by decide +kernel
theorem dX8_free_22 : decode cX8_free 22 = .ok (.ixor, 1) := by decide +kernel
theorem dX8_free_23 : decode cX8_free 23 = .ok (.iand, 1) := by decide +kernel
theorem dX8_free_24 : decode cX8_free 24 = .ok (.ireturn, 1) := by decide +kernel
theorem dX8_most_0 : decode cX8_most 0 = .ok (.iload_n 1, 1) := by decide +kernel
theorem dX8_most_1 : decode cX8_most 1 = .ok (.iconst 0, 1) := by decide +kernel
theorem dX8_most_2 : decode cX8_most 2 = .ok (.iconst 1, 1) := by decide +kernel
theorem dX8_most_3 : decode cX8_most 3 = .ok (.invokestatic 114, 3) := by decide +kernel
theorem dX8_most_6 : decode cX8_most 6 = .ok (.ifCond .ne 5, 3) := by decide +kernel
theorem dX8_most_9 : decode cX8_most 9 = .ok (.iconst (-1), 1) := by decide +kernel
theorem dX8_most_10 : decode cX8_most 10 = .ok (.ireturn, 1) := by decide +kernel
theorem dX8_most_11 : decode cX8_most 11 = .ok (.aload_n 0, 1) := by decide +kernel
theorem dX8_most_12 : decode cX8_most 12 = .ok (.invokevirtual 273, 3) := by decide +kernel
theorem dX8_most_15 : decode cX8_most 15 = .ok (.iconst 0, 1) := by decide +kernel
theorem dX8_most_16 : decode cX8_most 16 = .ok (.istore_n 2, 1) := by decide +kernel
theorem dX8_most_17 : decode cX8_most 17 = .ok (.iconst (-1), 1) := by decide +kernel
theorem dX8_most_18 : decode cX8_most 18 = .ok (.istore_n 3, 1) := by decide +kernel
theorem dX8_most_19 : decode cX8_most 19 = .ok (.iconst 0, 1) := by decide +kernel
theorem dX8_most_20 : decode cX8_most 20 = .ok (.istore 4, 2) := by decide +kernel
theorem dX8_most_22 : decode cX8_most 22 = .ok (.iload 4, 2) := by decide +kernel
theorem dX8_most_24 : decode cX8_most 24 = .ok (.bipush 99, 2) := by decide +kernel
theorem dX8_most_26 : decode cX8_most 26 = .ok (.if_icmp .gt 35, 3) := by decide +kernel
theorem dX8_most_29 : decode cX8_most 29 = .ok (.aload_n 0, 1) := by decide +kernel
theorem dX8_most_30 : decode cX8_most 30 = .ok (.iload 4, 2) := by decide +kernel
theorem dX8_most_32 : decode cX8_most 32 = .ok (.invokevirtual 282, 3) := by decide +kernel
theorem dX8_most_35 : decode cX8_most 35 = .ok (.invokestatic 285, 3) := by decide +kernel
theorem dX8_most_38 : decode cX8_most 38 = .ok (.istore 5, 2) := by decide +kernel
theorem dX8_most_40 : decode cX8_most 40 = .ok (.iload 5, 2) := by decide +kernel
theorem dX8_most_42 : decode cX8_most 42 = .ok (.iload_n 3, 1) := by decide +kernel
theorem dX8_most_43 : decode cX8_most 43 = .ok (.if_icmp .gt 6, 3) := by decide +kernel
theorem dX8_most_46 : decode cX8_most 46 = .ok (.goto 9, 3) := by decide +kernel
theorem dX8_most_49 : decode cX8_most 49 = .ok (.iload 5, 2) := by decide +kernel
theorem dX8_most_51 : decode cX8_most 51 = .ok (.istore_n 3, 1) := by decide +kernel
theorem dX8_most_52 : decode cX8_most 52 = .ok (.iload 4, 2) := by decide +kernel
theorem dX8_most_54 : decode cX8_most 54 = .ok (.istore_n 2, 1) := by decide +kernel
theorem dX8_most_55 : decode cX8_most 55 = .ok (.iinc 4 1, 3) := by decide +kernel
theorem dX8_most_58 : decode cX8_most 58 = .ok (.goto (-36), 3) := by decide +kernel
theorem dX8_most_61 : decode cX8_most 61 = .ok (.iload_n 1, 1) := by decide +kernel
theorem dX8_most_62 : decode cX8_most 62 = .ok (.ifCond .ne 7, 3) := by decide +kernel
theorem dX8_most_65 : decode cX8_most 65 = .ok (.iload_n 3, 1) := by decide +kernel
theorem dX8_most_66 : decode cX8_most 66 = .ok (.goto 4, 3) := by decide +kernel
theorem dX8_most_69 : decode cX8_most 69 = .ok (.iload_n 2, 1) := by decide +kernel
theorem dX8_most_70 : decode cX8_most 70 = .ok (.ireturn, 1) := by decide +kernel
theorem dX8_aheadOf_0 : decode cX8_aheadOf 0 = .ok (.iconst 0, 1) := by decide +kernel
theorem dX8_aheadOf_1 : decode cX8_aheadOf 1 = .ok (.istore_n 2, 1) := by decide +kernel
theorem dX8_aheadOf_2 : decode cX8_aheadOf 2 = .ok (.iconst 0, 1) := by decide +kernel
theorem dX8_aheadOf_3 : decode cX8_aheadOf 3 = .ok (.istore_n 3, 1) := by decide +kernel
theorem dX8_aheadOf_4 : decode cX8_aheadOf 4 = .ok (.iload_n 3, 1) := by decide +kernel
theorem dX8_aheadOf_5 : decode cX8_aheadOf 5 = .ok (.aload_n 0, 1) := by decide +kernel
theorem dX8_aheadOf_6 : decode cX8_aheadOf 6 = .ok (.getfield 111, 3) := by decide +kernel
theorem dX8_aheadOf_9 : decode cX8_aheadOf 9 = .ok (.if_icmp .ge 24, 3) := by decide +kernel
theorem dX8_aheadOf_12 : decode cX8_aheadOf 12 = .ok (.aload_n 0, 1) := by decide +kernel
theorem dX8_aheadOf_13 : decode cX8_aheadOf 13 = .ok (.iload_n 3, 1) := by decide +kernel
theorem dX8_aheadOf_14 : decode cX8_aheadOf 14 = .ok (.iload_n 1, 1) := by decide +kernel
theorem dX8_aheadOf_15 : decode cX8_aheadOf 15 = .ok (.invokevirtual 168, 3) := by decide +kernel
theorem dX8_aheadOf_18 : decode cX8_aheadOf 18 = .ok (.ifCond .eq 9, 3) := by decide +kernel
theorem dX8_aheadOf_21 : decode cX8_aheadOf 21 = .ok (.iload_n 2, 1) := by decide +kernel
theorem dX8_aheadOf_22 : decode cX8_aheadOf 22 = .ok (.iconst 1, 1) := by decide +kernel
theorem dX8_aheadOf_23 : decode cX8_aheadOf 23 = .ok (.iload_n 3, 1) := by decide +kernel
theorem dX8_aheadOf_24 : decode cX8_aheadOf 24 = .ok (.ishl, 1) := by decide +kernel
theorem dX8_aheadOf_25 : decode cX8_aheadOf 25 = .ok (.ior, 1) := by decide +kernel
theorem dX8_aheadOf_26 : decode cX8_aheadOf 26 = .ok (.istore_n 2, 1) := by decide +kernel
theorem dX8_aheadOf_27 : decode cX8_aheadOf 27 = .ok (.iinc 3 1, 3) := by decide +kernel
theorem dX8_aheadOf_30 : decode cX8_aheadOf 30 = .ok (.goto (-26), 3) := by decide +kernel
theorem dX8_aheadOf_33 : decode cX8_aheadOf 33 = .ok (.iload_n 2, 1) := by decide +kernel
theorem dX8_aheadOf_34 : decode cX8_aheadOf 34 = .ok (.ireturn, 1) := by decide +kernel
theorem dX8_judge_0 : decode cX8_judge 0 = .ok (.aload_n 0, 1) := by decide +kernel
theorem dX8_judge_1 : decode cX8_judge 1 = .ok (.invokevirtual 273, 3) := by decide +kernel
theorem dX8_judge_4 : decode cX8_judge 4 = .ok (.iconst 0, 1) := by decide +kernel
theorem dX8_judge_5 : decode cX8_judge 5 = .ok (.istore_n 1, 1) := by decide +kernel
theorem dX8_judge_6 : decode cX8_judge 6 = .ok (.iload_n 1, 1) := by decide +kernel
theorem dX8_judge_7 : decode cX8_judge 7 = .ok (.aload_n 0, 1) := by decide +kernel
theorem dX8_judge_8 : decode cX8_judge 8 = .ok (.getfield 111, 3) := by decide +kernel
theorem dX8_judge_11 : decode cX8_judge 11 = .ok (.if_icmp .ge 64, 3) := by decide +kernel
theorem dX8_judge_14 : decode cX8_judge 14 = .ok (.aload_n 0, 1) := by decide +kernel
theorem dX8_judge_15 : decode cX8_judge 15 = .ok (.iload_n 1, 1) := by decide +kernel
theorem dX8_judge_16 : decode cX8_judge 16 = .ok (.invokevirtual 288, 3) := by decide +kernel
theorem dX8_judge_19 : decode cX8_judge 19 = .ok (.istore_n 2, 1) := by decide +kernel
theorem dX8_judge_20 : decode cX8_judge 20 = .ok (.aload_n 0, 1) := by decide +kernel
theorem dX8_judge_21 : decode cX8_judge 21 = .ok (.getfield 16, 3) := by decide +kernel
theorem dX8_judge_24 : decode cX8_judge 24 = .ok (.iload_n 2, 1) := by decide +kernel
theorem dX8_judge_25 : decode cX8_judge 25 = .ok (.iaload, 1) := by decide +kernel
theorem dX8_judge_26 : decode cX8_judge 26 = .ok (.ifCond .ge 6, 3) := by decide +kernel
theorem dX8_judge_29 : decode cX8_judge 29 = .ok (.goto 40, 3) := by decide +kernel
theorem dX8_judge_32 : decode cX8_judge 32 = .ok (.aload_n 0, 1) := by decide +kernel
theorem dX8_judge_33 : decode cX8_judge 33 = .ok (.aload_n 0, 1) := by decide +kernel
theorem dX8_judge_34 : decode cX8_judge 34 = .ok (.getfield 7, 3) := by decide +kernel
theorem dX8_judge_37 : decode cX8_judge 37 = .ok (.iload_n 2, 1) := by decide +kernel
theorem dX8_judge_38 : decode cX8_judge 38 = .ok (.iaload, 1) := by decide +kernel
theorem dX8_judge_39 : decode cX8_judge 39 = .ok (.iconst 0, 1) := by decide +kernel
theorem dX8_judge_40 : decode cX8_judge 40 = .ok (.invokevirtual 254, 3) := by decide +kernel
theorem dX8_judge_43 : decode cX8_judge 43 = .ok (.aload_n 0, 1) := by decide +kernel
theorem dX8_judge_44 : decode cX8_judge 44 = .ok (.aload_n 0, 1) := by decide +kernel
theorem dX8_judge_45 : decode cX8_judge 45 = .ok (.getfield 16, 3) := by decide +kernel
theorem dX8_judge_48 : decode cX8_judge 48 = .ok (.iload_n 2, 1) := by decide +kernel
theorem dX8_judge_49 : decode cX8_judge 49 = .ok (.iaload, 1) := by decide +kernel
theorem dX8_judge_50 : decode cX8_judge 50 = .ok (.aload_n 0, 1) := by decide +kernel
theorem dX8_judge_51 : decode cX8_judge 51 = .ok (.getfield 7, 3) := by decide +kernel
theorem dX8_judge_54 : decode cX8_judge 54 = .ok (.iload_n 2, 1) := by decide +kernel
theorem dX8_judge_55 : decode cX8_judge 55 = .ok (.iaload, 1) := by decide +kernel
theorem dX8_judge_56 : decode cX8_judge 56 = .ok (.aload_n 0, 1) := by decide +kernel
theorem dX8_judge_57 : decode cX8_judge 57 = .ok (.iload_n 2, 1) := by decide +kernel
theorem dX8_judge_58 : decode cX8_judge 58 = .ok (.invokevirtual 291, 3) := by decide +kernel
theorem dX8_judge_61 : decode cX8_judge 61 = .ok (.invokevirtual 279, 3) := by decide +kernel
theorem dX8_judge_64 : decode cX8_judge 64 = .ok (.ifCond .eq 5, 3) := by decide +kernel
theorem dX8_judge_67 : decode cX8_judge 67 = .ok (.iload_n 2, 1) := by decide +kernel
theorem dX8_judge_68 : decode cX8_judge 68 = .ok (.ireturn, 1) := by decide +kernel
theorem dX8_judge_69 : decode cX8_judge 69 = .ok (.iinc 1 1, 3) := by decide +kernel
theorem dX8_judge_72 : decode cX8_judge 72 = .ok (.goto (-66), 3) := by decide +kernel
theorem dX8_judge_75 : decode cX8_judge 75 = .ok (.bipush (-2), 2) := by decide +kernel
theorem dX8_judge_77 : decode cX8_judge 77 = .ok (.ireturn, 1) := by decide +kernel
theorem dX8_latestHeld_0 : decode cX8_latestHeld 0 = .ok (.iload_n 2, 1) := by decide +kernel
theorem dX8_latestHeld_1 : decode cX8_latestHeld 1 = .ok (.iconst 1, 1) := by decide +kernel
theorem dX8_latestHeld_2 : decode cX8_latestHeld 2 = .ok (.isub, 1) := by decide +kernel
theorem dX8_latestHeld_3 : decode cX8_latestHeld 3 = .ok (.istore 4, 2) := by decide +kernel
theorem dX8_latestHeld_5 : decode cX8_latestHeld 5 = .ok (.iload 4, 2) := by decide +kernel
theorem dX8_latestHeld_7 : decode cX8_latestHeld 7 = .ok (.ifCond .lt 30, 3) := by decide +kernel
theorem dX8_latestHeld_10 : decode cX8_latestHeld 10 = .ok (.aload_n 0, 1) := by decide +kernel
theorem dX8_latestHeld_11 : decode cX8_latestHeld 11 = .ok (.iload 4, 2) := by decide +kernel
theorem dX8_latestHeld_13 : decode cX8_latestHeld 13 = .ok (.iconst 0, 1) := by decide +kernel
theorem dX8_latestHeld_14 : decode cX8_latestHeld 14 = .ok (.invokevirtual 254, 3) := by decide +kernel
theorem dX8_latestHeld_17 : decode cX8_latestHeld 17 = .ok (.aload_n 0, 1) := by decide +kernel
theorem dX8_latestHeld_18 : decode cX8_latestHeld 18 = .ok (.iload_n 1, 1) := by decide +kernel
theorem dX8_latestHeld_19 : decode cX8_latestHeld 19 = .ok (.iload 4, 2) := by decide +kernel
theorem dX8_latestHeld_21 : decode cX8_latestHeld 21 = .ok (.iload_n 3, 1) := by decide +kernel
theorem dX8_latestHeld_22 : decode cX8_latestHeld 22 = .ok (.invokevirtual 279, 3) := by decide +kernel
theorem dX8_latestHeld_25 : decode cX8_latestHeld 25 = .ok (.ifCond .eq 6, 3) := by decide +kernel
theorem dX8_latestHeld_28 : decode cX8_latestHeld 28 = .ok (.iload 4, 2) := by decide +kernel
theorem dX8_latestHeld_30 : decode cX8_latestHeld 30 = .ok (.ireturn, 1) := by decide +kernel
theorem dX8_latestHeld_31 : decode cX8_latestHeld 31 = .ok (.iinc 4 (-1), 3) := by decide +kernel
theorem dX8_latestHeld_34 : decode cX8_latestHeld 34 = .ok (.goto (-29), 3) := by decide +kernel
theorem dX8_latestHeld_37 : decode cX8_latestHeld 37 = .ok (.iconst (-1), 1) := by decide +kernel
theorem dX8_latestHeld_38 : decode cX8_latestHeld 38 = .ok (.ireturn, 1) := by decide +kernel
theorem dX8_given_0 : decode cX8_given 0 = .ok (.aload_n 0, 1) := by decide +kernel
theorem dX8_given_1 : decode cX8_given 1 = .ok (.iload_n 1, 1) := by decide +kernel
theorem dX8_given_2 : decode cX8_given 2 = .ok (.invokevirtual 291, 3) := by decide +kernel
theorem dX8_given_5 : decode cX8_given 5 = .ok (.istore_n 3, 1) := by decide +kernel
theorem dX8_given_6 : decode cX8_given 6 = .ok (.aload_n 0, 1) := by decide +kernel
theorem dX8_given_7 : decode cX8_given 7 = .ok (.aload_n 0, 1) := by decide +kernel
theorem dX8_given_8 : decode cX8_given 8 = .ok (.getfield 7, 3) := by decide +kernel
theorem dX8_given_11 : decode cX8_given 11 = .ok (.iload_n 1, 1) := by decide +kernel
theorem dX8_given_12 : decode cX8_given 12 = .ok (.iaload, 1) := by decide +kernel
theorem dX8_given_13 : decode cX8_given 13 = .ok (.iconst 0, 1) := by decide +kernel
theorem dX8_given_14 : decode cX8_given 14 = .ok (.invokevirtual 254, 3) := by decide +kernel
theorem dX8_given_17 : decode cX8_given 17 = .ok (.iconst 0, 1) := by decide +kernel
theorem dX8_given_18 : decode cX8_given 18 = .ok (.istore 4, 2) := by decide +kernel
theorem dX8_given_20 : decode cX8_given 20 = .ok (.iconst 0, 1) := by decide +kernel
theorem dX8_given_21 : decode cX8_given 21 = .ok (.istore 5, 2) := by decide +kernel
theorem dX8_given_23 : decode cX8_given 23 = .ok (.iload 5, 2) := by decide +kernel
theorem dX8_given_25 : decode cX8_given 25 = .ok (.bipush 12, 2) := by decide +kernel
theorem dX8_given_27 : decode cX8_given 27 = .ok (.if_icmp .ge 34, 3) := by decide +kernel
theorem dX8_given_30 : decode cX8_given 30 = .ok (.aload_n 0, 1) := by decide +kernel
theorem dX8_given_31 : decode cX8_given 31 = .ok (.iload 5, 2) := by decide +kernel
theorem dX8_given_33 : decode cX8_given 33 = .ok (.aload_n 0, 1) := by decide +kernel
theorem dX8_given_34 : decode cX8_given 34 = .ok (.getfield 7, 3) := by decide +kernel
theorem dX8_given_37 : decode cX8_given 37 = .ok (.iload_n 1, 1) := by decide +kernel
theorem dX8_given_38 : decode cX8_given 38 = .ok (.iaload, 1) := by decide +kernel
theorem dX8_given_39 : decode cX8_given 39 = .ok (.iload_n 3, 1) := by decide +kernel
theorem dX8_given_40 : decode cX8_given 40 = .ok (.invokevirtual 279, 3) := by decide +kernel
theorem dX8_given_43 : decode cX8_given 43 = .ok (.ifCond .ne 12, 3) := by decide +kernel
theorem dX8_given_46 : decode cX8_given 46 = .ok (.iload 4, 2) := by decide +kernel
theorem dX8_given_48 : decode cX8_given 48 = .ok (.iconst 1, 1) := by decide +kernel
theorem dX8_given_49 : decode cX8_given 49 = .ok (.iload 5, 2) := by decide +kernel
theorem dX8_given_51 : decode cX8_given 51 = .ok (.ishl, 1) := by decide +kernel
theorem dX8_given_52 : decode cX8_given 52 = .ok (.ior, 1) := by decide +kernel
theorem dX8_given_53 : decode cX8_given 53 = .ok (.istore 4, 2) := by decide +kernel
theorem dX8_given_55 : decode cX8_given 55 = .ok (.iinc 5 1, 3) := by decide +kernel
theorem dX8_given_58 : decode cX8_given 58 = .ok (.goto (-35), 3) := by decide +kernel
theorem dX8_given_61 : decode cX8_given 61 = .ok (.bipush (-2), 2) := by decide +kernel
theorem dX8_given_63 : decode cX8_given 63 = .ok (.istore 5, 2) := by decide +kernel
theorem dX8_given_65 : decode cX8_given 65 = .ok (.iconst 0, 1) := by decide +kernel
theorem dX8_given_66 : decode cX8_given 66 = .ok (.istore 6, 2) := by decide +kernel
theorem dX8_given_68 : decode cX8_given 68 = .ok (.iconst 0, 1) := by decide +kernel
theorem dX8_given_69 : decode cX8_given 69 = .ok (.istore 7, 2) := by decide +kernel
theorem dX8_given_71 : decode cX8_given 71 = .ok (.iload 7, 2) := by decide +kernel
theorem dX8_given_73 : decode cX8_given 73 = .ok (.bipush 12, 2) := by decide +kernel
theorem dX8_given_75 : decode cX8_given 75 = .ok (.if_icmp .ge 83, 3) := by decide +kernel
theorem dX8_given_78 : decode cX8_given 78 = .ok (.iload 4, 2) := by decide +kernel
theorem dX8_given_80 : decode cX8_given 80 = .ok (.iload 7, 2) := by decide +kernel
theorem dX8_given_82 : decode cX8_given 82 = .ok (.ishr, 1) := by decide +kernel
theorem dX8_given_83 : decode cX8_given 83 = .ok (.iconst 1, 1) := by decide +kernel
theorem dX8_given_84 : decode cX8_given 84 = .ok (.iand, 1) := by decide +kernel
theorem dX8_given_85 : decode cX8_given 85 = .ok (.ifCond .ne 6, 3) := by decide +kernel
theorem dX8_given_88 : decode cX8_given 88 = .ok (.goto 64, 3) := by decide +kernel
theorem dX8_given_91 : decode cX8_given 91 = .ok (.iload_n 2, 1) := by decide +kernel
theorem dX8_given_92 : decode cX8_given 92 = .ok (.ifCond .ne 7, 3) := by decide +kernel
theorem dX8_given_95 : decode cX8_given 95 = .ok (.iconst 0, 1) := by decide +kernel
theorem dX8_given_96 : decode cX8_given 96 = .ok (.goto 31, 3) := by decide +kernel
theorem dX8_given_99 : decode cX8_given 99 = .ok (.iload_n 2, 1) := by decide +kernel
theorem dX8_given_100 : decode cX8_given 100 = .ok (.iconst 1, 1) := by decide +kernel
theorem dX8_given_101 : decode cX8_given 101 = .ok (.if_icmp .ne 19, 3) := by decide +kernel
theorem dX8_given_104 : decode cX8_given 104 = .ok (.aload_n 0, 1) := by decide +kernel
theorem dX8_given_105 : decode cX8_given 105 = .ok (.iload 7, 2) := by decide +kernel
theorem dX8_given_107 : decode cX8_given 107 = .ok (.aload_n 0, 1) := by decide +kernel
theorem dX8_given_108 : decode cX8_given 108 = .ok (.getfield 7, 3) := by decide +kernel
theorem dX8_given_111 : decode cX8_given 111 = .ok (.iload_n 1, 1) := by decide +kernel
theorem dX8_given_112 : decode cX8_given 112 = .ok (.iaload, 1) := by decide +kernel
theorem dX8_given_113 : decode cX8_given 113 = .ok (.iload_n 3, 1) := by decide +kernel
theorem dX8_given_114 : decode cX8_given 114 = .ok (.invokevirtual 294, 3) := by decide +kernel
theorem dX8_given_117 : decode cX8_given 117 = .ok (.goto 10, 3) := by decide +kernel
theorem dX8_given_120 : decode cX8_given 120 = .ok (.aload_n 0, 1) := by decide +kernel
theorem dX8_given_121 : decode cX8_given 121 = .ok (.getfield 28, 3) := by decide +kernel
theorem dX8_given_124 : decode cX8_given 124 = .ok (.iload 7, 2) := by decide +kernel
theorem dX8_given_126 : decode cX8_given 126 = .ok (.iaload, 1) := by decide +kernel
theorem dX8_given_127 : decode cX8_given 127 = .ok (.istore 8, 2) := by decide +kernel
theorem dX8_given_129 : decode cX8_given 129 = .ok (.iload 5, 2) := by decide +kernel
theorem dX8_given_131 : decode cX8_given 131 = .ok (.ifCond .lt 13, 3) := by decide +kernel
theorem dX8_given_134 : decode cX8_given 134 = .ok (.iload 8, 2) := by decide +kernel
theorem dX8_given_136 : decode cX8_given 136 = .ok (.iload 6, 2) := by decide +kernel
theorem dX8_given_138 : decode cX8_given 138 = .ok (.if_icmp .gt 6, 3) := by decide +kernel
theorem dX8_given_141 : decode cX8_given 141 = .ok (.goto 11, 3) := by decide +kernel
theorem dX8_given_144 : decode cX8_given 144 = .ok (.iload 7, 2) := by decide +kernel
theorem dX8_given_146 : decode cX8_given 146 = .ok (.istore 5, 2) := by decide +kernel
theorem dX8_given_148 : decode cX8_given 148 = .ok (.iload 8, 2) := by decide +kernel
theorem dX8_given_150 : decode cX8_given 150 = .ok (.istore 6, 2) := by decide +kernel
theorem dX8_given_152 : decode cX8_given 152 = .ok (.iinc 7 1, 3) := by decide +kernel
theorem dX8_given_155 : decode cX8_given 155 = .ok (.goto (-84), 3) := by decide +kernel
theorem dX8_given_158 : decode cX8_given 158 = .ok (.iload 5, 2) := by decide +kernel
theorem dX8_given_160 : decode cX8_given 160 = .ok (.ireturn, 1) := by decide +kernel
theorem dX8_give_0 : decode cX8_give 0 = .ok (.aload_n 0, 1) := by decide +kernel
theorem dX8_give_1 : decode cX8_give 1 = .ok (.iload_n 1, 1) := by decide +kernel
theorem dX8_give_2 : decode cX8_give 2 = .ok (.invokevirtual 135, 3) := by decide +kernel
theorem dX8_give_5 : decode cX8_give 5 = .ok (.ifCond .eq 12, 3) := by decide +kernel
theorem dX8_give_8 : decode cX8_give 8 = .ok (.iload_n 2, 1) := by decide +kernel
theorem dX8_give_9 : decode cX8_give 9 = .ok (.iconst 0, 1) := by decide +kernel
theorem dX8_give_10 : decode cX8_give 10 = .ok (.iconst 2, 1) := by decide +kernel
theorem dX8_give_11 : decode cX8_give 11 = .ok (.invokestatic 114, 3) := by decide +kernel
theorem dX8_give_14 : decode cX8_give 14 = .ok (.ifCond .ne 5, 3) := by decide +kernel
theorem dX8_give_17 : decode cX8_give 17 = .ok (.iconst (-1), 1) := by decide +kernel
theorem dX8_give_18 : decode cX8_give 18 = .ok (.ireturn, 1) := by decide +kernel
theorem dX8_give_19 : decode cX8_give 19 = .ok (.aload_n 0, 1) := by decide +kernel
theorem dX8_give_20 : decode cX8_give 20 = .ok (.getfield 16, 3) := by decide +kernel
theorem dX8_give_23 : decode cX8_give 23 = .ok (.iload_n 1, 1) := by decide +kernel
theorem dX8_give_24 : decode cX8_give 24 = .ok (.iaload, 1) := by decide +kernel
theorem dX8_give_25 : decode cX8_give 25 = .ok (.ifCond .lt 6, 3) := by decide +kernel
theorem dX8_give_28 : decode cX8_give 28 = .ok (.bipush (-5), 2) := by decide +kernel
theorem dX8_give_30 : decode cX8_give 30 = .ok (.ireturn, 1) := by decide +kernel
theorem dX8_give_31 : decode cX8_give 31 = .ok (.aload_n 0, 1) := by decide +kernel
theorem dX8_give_32 : decode cX8_give 32 = .ok (.invokevirtual 273, 3) := by decide +kernel
theorem dX8_give_35 : decode cX8_give 35 = .ok (.aload_n 0, 1) := by decide +kernel
theorem dX8_give_36 : decode cX8_give 36 = .ok (.iload_n 1, 1) := by decide +kernel
theorem dX8_give_37 : decode cX8_give 37 = .ok (.iload_n 2, 1) := by decide +kernel
theorem dX8_give_38 : decode cX8_give 38 = .ok (.invokevirtual 297, 3) := by decide +kernel
theorem dX8_give_41 : decode cX8_give 41 = .ok (.istore_n 3, 1) := by decide +kernel
theorem dX8_give_42 : decode cX8_give 42 = .ok (.iload_n 3, 1) := by decide +kernel
theorem dX8_give_43 : decode cX8_give 43 = .ok (.ifCond .lt 10, 3) := by decide +kernel
theorem dX8_give_46 : decode cX8_give 46 = .ok (.aload_n 0, 1) := by decide +kernel
theorem dX8_give_47 : decode cX8_give 47 = .ok (.getfield 16, 3) := by decide +kernel
theorem dX8_give_50 : decode cX8_give 50 = .ok (.iload_n 1, 1) := by decide +kernel
theorem dX8_give_51 : decode cX8_give 51 = .ok (.iload_n 3, 1) := by decide +kernel
theorem dX8_give_52 : decode cX8_give 52 = .ok (.iastore, 1) := by decide +kernel
theorem dX8_give_53 : decode cX8_give 53 = .ok (.iload_n 3, 1) := by decide +kernel
theorem dX8_give_54 : decode cX8_give 54 = .ok (.ireturn, 1) := by decide +kernel
theorem dX8_runBy_0 : decode cX8_runBy 0 = .ok (.iconst 0, 1) := by decide +kernel
theorem dX8_runBy_1 : decode cX8_runBy 1 = .ok (.istore_n 2, 1) := by decide +kernel
theorem dX8_runBy_2 : decode cX8_runBy 2 = .ok (.iload_n 2, 1) := by decide +kernel
theorem dX8_runBy_3 : decode cX8_runBy 3 = .ok (.bipush 12, 2) := by decide +kernel
theorem dX8_runBy_5 : decode cX8_runBy 5 = .ok (.if_icmp .ge 16, 3) := by decide +kernel
theorem dX8_runBy_8 : decode cX8_runBy 8 = .ok (.aload_n 0, 1) := by decide +kernel
theorem dX8_runBy_9 : decode cX8_runBy 9 = .ok (.getfield 79, 3) := by decide +kernel
theorem dX8_runBy_12 : decode cX8_runBy 12 = .ok (.iload_n 2, 1) := by decide +kernel
theorem dX8_runBy_13 : decode cX8_runBy 13 = .ok (.iconst (-1), 1) := by decide +kernel
theorem dX8_runBy_14 : decode cX8_runBy 14 = .ok (.iastore, 1) := by decide +kernel
theorem dX8_runBy_15 : decode cX8_runBy 15 = .ok (.iinc 2 1, 3) := by decide +kernel
theorem dX8_runBy_18 : decode cX8_runBy 18 = .ok (.goto (-16), 3) := by decide +kernel
theorem dX8_runBy_21 : decode cX8_runBy 21 = .ok (.iconst 0, 1) := by decide +kernel
theorem dX8_runBy_22 : decode cX8_runBy 22 = .ok (.istore_n 2, 1) := by decide +kernel
theorem dX8_runBy_23 : decode cX8_runBy 23 = .ok (.iload_n 2, 1) := by decide +kernel
theorem dX8_runBy_24 : decode cX8_runBy 24 = .ok (.aload_n 0, 1) := by decide +kernel
theorem dX8_runBy_25 : decode cX8_runBy 25 = .ok (.getfield 111, 3) := by decide +kernel
theorem dX8_runBy_28 : decode cX8_runBy 28 = .ok (.if_icmp .ge 40, 3) := by decide +kernel
theorem dX8_runBy_31 : decode cX8_runBy 31 = .ok (.aload_n 0, 1) := by decide +kernel
theorem dX8_runBy_32 : decode cX8_runBy 32 = .ok (.iload_n 2, 1) := by decide +kernel
theorem dX8_runBy_33 : decode cX8_runBy 33 = .ok (.invokevirtual 288, 3) := by decide +kernel
theorem dX8_runBy_36 : decode cX8_runBy 36 = .ok (.istore_n 3, 1) := by decide +kernel
theorem dX8_runBy_37 : decode cX8_runBy 37 = .ok (.aload_n 0, 1) := by decide +kernel
theorem dX8_runBy_38 : decode cX8_runBy 38 = .ok (.iload_n 3, 1) := by decide +kernel
theorem dX8_runBy_39 : decode cX8_runBy 39 = .ok (.iload_n 1, 1) := by decide +kernel
theorem dX8_runBy_40 : decode cX8_runBy 40 = .ok (.invokevirtual 297, 3) := by decide +kernel
theorem dX8_runBy_43 : decode cX8_runBy 43 = .ok (.istore 4, 2) := by decide +kernel
theorem dX8_runBy_45 : decode cX8_runBy 45 = .ok (.aload_n 0, 1) := by decide +kernel
theorem dX8_runBy_46 : decode cX8_runBy 46 = .ok (.getfield 79, 3) := by decide +kernel
theorem dX8_runBy_49 : decode cX8_runBy 49 = .ok (.iload_n 3, 1) := by decide +kernel
theorem dX8_runBy_50 : decode cX8_runBy 50 = .ok (.iload 4, 2) := by decide +kernel
theorem dX8_runBy_52 : decode cX8_runBy 52 = .ok (.ifCond .ge 7, 3) := by decide +kernel
theorem dX8_runBy_55 : decode cX8_runBy 55 = .ok (.iconst (-1), 1) := by decide +kernel
theorem dX8_runBy_56 : decode cX8_runBy 56 = .ok (.goto 5, 3) := by decide +kernel
theorem dX8_runBy_59 : decode cX8_runBy 59 = .ok (.iload 4, 2) := by decide +kernel
theorem dX8_runBy_61 : decode cX8_runBy 61 = .ok (.iastore, 1) := by decide +kernel
theorem dX8_runBy_62 : decode cX8_runBy 62 = .ok (.iinc 2 1, 3) := by decide +kernel
theorem dX8_runBy_65 : decode cX8_runBy 65 = .ok (.goto (-42), 3) := by decide +kernel
theorem dX8_runBy_68 : decode cX8_runBy 68 = .ok (.return_, 1) := by decide +kernel
theorem dX8_run_0 : decode cX8_run 0 = .ok (.iload_n 1, 1) := by decide +kernel
theorem dX8_run_1 : decode cX8_run 1 = .ok (.iconst 0, 1) := by decide +kernel
theorem dX8_run_2 : decode cX8_run 2 = .ok (.iconst 2, 1) := by decide +kernel
theorem dX8_run_3 : decode cX8_run 3 = .ok (.invokestatic 114, 3) := by decide +kernel
theorem dX8_run_6 : decode cX8_run 6 = .ok (.ifCond .eq 11, 3) := by decide +kernel
theorem dX8_run_9 : decode cX8_run 9 = .ok (.aload_n 0, 1) := by decide +kernel
theorem dX8_run_10 : decode cX8_run 10 = .ok (.iload_n 2, 1) := by decide +kernel
theorem dX8_run_11 : decode cX8_run 11 = .ok (.invokevirtual 135, 3) := by decide +kernel
theorem dX8_run_14 : decode cX8_run 14 = .ok (.ifCond .ne 5, 3) := by decide +kernel
theorem dX8_run_17 : decode cX8_run 17 = .ok (.iconst (-1), 1) := by decide +kernel
theorem dX8_run_18 : decode cX8_run 18 = .ok (.ireturn, 1) := by decide +kernel
theorem dX8_run_19 : decode cX8_run 19 = .ok (.aload_n 0, 1) := by decide +kernel
theorem dX8_run_20 : decode cX8_run 20 = .ok (.iload_n 1, 1) := by decide +kernel
theorem dX8_run_21 : decode cX8_run 21 = .ok (.invokevirtual 300, 3) := by decide +kernel
theorem dX8_run_24 : decode cX8_run 24 = .ok (.aload_n 0, 1) := by decide +kernel
theorem dX8_run_25 : decode cX8_run 25 = .ok (.getfield 79, 3) := by decide +kernel
theorem dX8_run_28 : decode cX8_run 28 = .ok (.iload_n 2, 1) := by decide +kernel
theorem dX8_run_29 : decode cX8_run 29 = .ok (.iaload, 1) := by decide +kernel
theorem dX8_run_30 : decode cX8_run 30 = .ok (.ifCond .ge 8, 3) := by decide +kernel
theorem dX8_run_33 : decode cX8_run 33 = .ok (.bipush (-2), 2) := by decide +kernel
theorem dX8_run_35 : decode cX8_run 35 = .ok (.goto 9, 3) := by decide +kernel
theorem dX8_run_38 : decode cX8_run 38 = .ok (.aload_n 0, 1) := by decide +kernel
theorem dX8_run_39 : decode cX8_run 39 = .ok (.getfield 79, 3) := by decide +kernel
theorem dX8_run_42 : decode cX8_run 42 = .ok (.iload_n 2, 1) := by decide +kernel
theorem dX8_run_43 : decode cX8_run 43 = .ok (.iaload, 1) := by decide +kernel
theorem dX8_run_44 : decode cX8_run 44 = .ok (.ireturn, 1) := by decide +kernel
theorem dX8_unlikeNames_0 : decode cX8_unlikeNames 0 = .ok (.iconst 0, 1) := by decide +kernel
theorem dX8_unlikeNames_1 : decode cX8_unlikeNames 1 = .ok (.istore_n 1, 1) := by decide +kernel
theorem dX8_unlikeNames_2 : decode cX8_unlikeNames 2 = .ok (.iconst 0, 1) := by decide +kernel
theorem dX8_unlikeNames_3 : decode cX8_unlikeNames 3 = .ok (.istore_n 2, 1) := by decide +kernel
theorem dX8_unlikeNames_4 : decode cX8_unlikeNames 4 = .ok (.iload_n 2, 1) := by decide +kernel
theorem dX8_unlikeNames_5 : decode cX8_unlikeNames 5 = .ok (.aload_n 0, 1) := by decide +kernel
theorem dX8_unlikeNames_6 : decode cX8_unlikeNames 6 = .ok (.getfield 111, 3) := by decide +kernel
theorem dX8_unlikeNames_9 : decode cX8_unlikeNames 9 = .ok (.if_icmp .ge 29, 3) := by decide +kernel
theorem dX8_unlikeNames_12 : decode cX8_unlikeNames 12 = .ok (.aload_n 0, 1) := by decide +kernel
theorem dX8_unlikeNames_13 : decode cX8_unlikeNames 13 = .ok (.getfield 79, 3) := by decide +kernel
theorem dX8_unlikeNames_16 : decode cX8_unlikeNames 16 = .ok (.iload_n 2, 1) := by decide +kernel
theorem dX8_unlikeNames_17 : decode cX8_unlikeNames 17 = .ok (.iaload, 1) := by decide +kernel
theorem dX8_unlikeNames_18 : decode cX8_unlikeNames 18 = .ok (.ifCond .lt 14, 3) := by decide +kernel
theorem dX8_unlikeNames_21 : decode cX8_unlikeNames 21 = .ok (.iload_n 1, 1) := by decide +kernel
theorem dX8_unlikeNames_22 : decode cX8_unlikeNames 22 = .ok (.iconst 1, 1) := by decide +kernel
theorem dX8_unlikeNames_23 : decode cX8_unlikeNames 23 = .ok (.aload_n 0, 1) := by decide +kernel
theorem dX8_unlikeNames_24 : decode cX8_unlikeNames 24 = .ok (.getfield 79, 3) := by decide +kernel
theorem dX8_unlikeNames_27 : decode cX8_unlikeNames 27 = .ok (.iload_n 2, 1) := by decide +kernel
theorem dX8_unlikeNames_28 : decode cX8_unlikeNames 28 = .ok (.iaload, 1) := by decide +kernel
theorem dX8_unlikeNames_29 : decode cX8_unlikeNames 29 = .ok (.ishl, 1) := by decide +kernel
theorem dX8_unlikeNames_30 : decode cX8_unlikeNames 30 = .ok (.ior, 1) := by decide +kernel
theorem dX8_unlikeNames_31 : decode cX8_unlikeNames 31 = .ok (.istore_n 1, 1) := by decide +kernel
theorem dX8_unlikeNames_32 : decode cX8_unlikeNames 32 = .ok (.iinc 2 1, 3) := by decide +kernel
theorem dX8_unlikeNames_35 : decode cX8_unlikeNames 35 = .ok (.goto (-31), 3) := by decide +kernel
theorem dX8_unlikeNames_38 : decode cX8_unlikeNames 38 = .ok (.iload_n 1, 1) := by decide +kernel
theorem dX8_unlikeNames_39 : decode cX8_unlikeNames 39 = .ok (.invokestatic 285, 3) := by decide +kernel
theorem dX8_unlikeNames_42 : decode cX8_unlikeNames 42 = .ok (.ireturn, 1) := by decide +kernel
theorem dX8_used_0 : decode cX8_used 0 = .ok (.iload_n 1, 1) := by decide +kernel
theorem dX8_used_1 : decode cX8_used 1 = .ok (.iconst 0, 1) := by decide +kernel
theorem dX8_used_2 : decode cX8_used 2 = .ok (.iconst 2, 1) := by decide +kernel
theorem dX8_used_3 : decode cX8_used 3 = .ok (.invokestatic 114, 3) := by decide +kernel
theorem dX8_used_6 : decode cX8_used 6 = .ok (.ifCond .eq 12, 3) := by decide +kernel
theorem dX8_used_9 : decode cX8_used 9 = .ok (.iload_n 2, 1) := by decide +kernel
theorem dX8_used_10 : decode cX8_used 10 = .ok (.iconst 0, 1) := by decide +kernel
theorem dX8_used_11 : decode cX8_used 11 = .ok (.iconst 2, 1) := by decide +kernel
theorem dX8_used_12 : decode cX8_used 12 = .ok (.invokestatic 114, 3) := by decide +kernel
theorem dX8_used_15 : decode cX8_used 15 = .ok (.ifCond .ne 5, 3) := by decide +kernel
theorem dX8_used_18 : decode cX8_used 18 = .ok (.iconst (-1), 1) := by decide +kernel
theorem dX8_used_19 : decode cX8_used 19 = .ok (.ireturn, 1) := by decide +kernel
theorem dX8_used_20 : decode cX8_used 20 = .ok (.aload_n 0, 1) := by decide +kernel
theorem dX8_used_21 : decode cX8_used 21 = .ok (.iload_n 1, 1) := by decide +kernel
theorem dX8_used_22 : decode cX8_used 22 = .ok (.invokevirtual 300, 3) := by decide +kernel
theorem dX8_used_25 : decode cX8_used 25 = .ok (.iload_n 2, 1) := by decide +kernel
theorem dX8_used_26 : decode cX8_used 26 = .ok (.ifCond .ne 8, 3) := by decide +kernel
theorem dX8_used_29 : decode cX8_used 29 = .ok (.aload_n 0, 1) := by decide +kernel
theorem dX8_used_30 : decode cX8_used 30 = .ok (.invokevirtual 304, 3) := by decide +kernel
theorem dX8_used_33 : decode cX8_used 33 = .ok (.ireturn, 1) := by decide +kernel
theorem dX8_used_34 : decode cX8_used 34 = .ok (.iconst 0, 1) := by decide +kernel
theorem dX8_used_35 : decode cX8_used 35 = .ok (.istore_n 3, 1) := by decide +kernel
theorem dX8_used_36 : decode cX8_used 36 = .ok (.iconst 0, 1) := by decide +kernel
theorem dX8_used_37 : decode cX8_used 37 = .ok (.istore 4, 2) := by decide +kernel
theorem dX8_used_39 : decode cX8_used 39 = .ok (.iload 4, 2) := by decide +kernel
theorem dX8_used_41 : decode cX8_used 41 = .ok (.aload_n 0, 1) := by decide +kernel
theorem dX8_used_42 : decode cX8_used 42 = .ok (.getfield 111, 3) := by decide +kernel
theorem dX8_used_45 : decode cX8_used 45 = .ok (.if_icmp .ge 57, 3) := by decide +kernel
theorem dX8_used_48 : decode cX8_used 48 = .ok (.iload_n 2, 1) := by decide +kernel
theorem dX8_used_49 : decode cX8_used 49 = .ok (.iconst 1, 1) := by decide +kernel
theorem dX8_used_50 : decode cX8_used 50 = .ok (.if_icmp .ne 28, 3) := by decide +kernel
theorem dX8_used_53 : decode cX8_used 53 = .ok (.aload_n 0, 1) := by decide +kernel
theorem dX8_used_54 : decode cX8_used 54 = .ok (.getfield 79, 3) := by decide +kernel
theorem dX8_used_57 : decode cX8_used 57 = .ok (.iload 4, 2) := by decide +kernel
theorem dX8_used_59 : decode cX8_used 59 = .ok (.iaload, 1) := by decide +kernel
theorem dX8_used_60 : decode cX8_used 60 = .ok (.ifCond .lt 18, 3) := by decide +kernel
theorem dX8_used_63 : decode cX8_used 63 = .ok (.iload_n 3, 1) := by decide +kernel
theorem dX8_used_64 : decode cX8_used 64 = .ok (.aload_n 0, 1) := by decide +kernel
theorem dX8_used_65 : decode cX8_used 65 = .ok (.getfield 28, 3) := by decide +kernel
theorem dX8_used_68 : decode cX8_used 68 = .ok (.aload_n 0, 1) := by decide +kernel
theorem dX8_used_69 : decode cX8_used 69 = .ok (.getfield 79, 3) := by decide +kernel
theorem dX8_used_72 : decode cX8_used 72 = .ok (.iload 4, 2) := by decide +kernel
theorem dX8_used_74 : decode cX8_used 74 = .ok (.iaload, 1) := by decide +kernel
theorem dX8_used_75 : decode cX8_used 75 = .ok (.iaload, 1) := by decide +kernel
theorem dX8_used_76 : decode cX8_used 76 = .ok (.iadd, 1) := by decide +kernel
theorem dX8_used_77 : decode cX8_used 77 = .ok (.istore_n 3, 1) := by decide +kernel
theorem dX8_used_78 : decode cX8_used 78 = .ok (.iload_n 2, 1) := by decide +kernel
theorem dX8_used_79 : decode cX8_used 79 = .ok (.iconst 2, 1) := by decide +kernel
theorem dX8_used_80 : decode cX8_used 80 = .ok (.if_icmp .ne 16, 3) := by decide +kernel
theorem dX8_used_83 : decode cX8_used 83 = .ok (.aload_n 0, 1) := by decide +kernel
theorem dX8_used_84 : decode cX8_used 84 = .ok (.getfield 79, 3) := by decide +kernel
theorem dX8_used_87 : decode cX8_used 87 = .ok (.iload 4, 2) := by decide +kernel
theorem dX8_used_89 : decode cX8_used 89 = .ok (.iaload, 1) := by decide +kernel
theorem dX8_used_90 : decode cX8_used 90 = .ok (.ifCond .ge 6, 3) := by decide +kernel
theorem dX8_used_93 : decode cX8_used 93 = .ok (.iinc 3 1, 3) := by decide +kernel
theorem dX8_used_96 : decode cX8_used 96 = .ok (.iinc 4 1, 3) := by decide +kernel
theorem dX8_used_99 : decode cX8_used 99 = .ok (.goto (-60), 3) := by decide +kernel
theorem dX8_used_102 : decode cX8_used 102 = .ok (.iload_n 3, 1) := by decide +kernel
theorem dX8_used_103 : decode cX8_used 103 = .ok (.ireturn, 1) := by decide +kernel
theorem dX8_isFreeWithout_0 : decode cX8_isFreeWithout 0 = .ok (.aload_n 0, 1) := by decide +kernel
theorem dX8_isFreeWithout_1 : decode cX8_isFreeWithout 1 = .ok (.iload_n 2, 1) := by decide +kernel
theorem dX8_isFreeWithout_2 : decode cX8_isFreeWithout 2 = .ok (.iload_n 3, 1) := by decide +kernel
theorem dX8_isFreeWithout_3 : decode cX8_isFreeWithout 3 = .ok (.invokevirtual 254, 3) := by decide +kernel
theorem dX8_isFreeWithout_6 : decode cX8_isFreeWithout 6 = .ok (.aload_n 0, 1) := by decide +kernel
theorem dX8_isFreeWithout_7 : decode cX8_isFreeWithout 7 = .ok (.iload_n 1, 1) := by decide +kernel
theorem dX8_isFreeWithout_8 : decode cX8_isFreeWithout 8 = .ok (.iload_n 2, 1) := by decide +kernel
theorem dX8_isFreeWithout_9 : decode cX8_isFreeWithout 9 = .ok (.aload_n 0, 1) := by decide +kernel
theorem dX8_isFreeWithout_10 : decode cX8_isFreeWithout 10 = .ok (.invokevirtual 276, 3) := by decide +kernel
theorem dX8_isFreeWithout_13 : decode cX8_isFreeWithout 13 = .ok (.invokevirtual 279, 3) := by decide +kernel
theorem dX8_isFreeWithout_16 : decode cX8_isFreeWithout 16 = .ok (.ifCond .ne 7, 3) := by decide +kernel
theorem dX8_isFreeWithout_19 : decode cX8_isFreeWithout 19 = .ok (.iconst 1, 1) := by decide +kernel
theorem dX8_isFreeWithout_20 : decode cX8_isFreeWithout 20 = .ok (.goto 4, 3) := by decide +kernel
theorem dX8_isFreeWithout_23 : decode cX8_isFreeWithout 23 = .ok (.iconst 0, 1) := by decide +kernel
theorem dX8_isFreeWithout_24 : decode cX8_isFreeWithout 24 = .ok (.ireturn, 1) := by decide +kernel
theorem dX8_apart_0 : decode cX8_apart 0 = .ok (.iload_n 1, 1) := by decide +kernel
theorem dX8_apart_1 : decode cX8_apart 1 = .ok (.invokestatic 148, 3) := by decide +kernel
theorem dX8_apart_4 : decode cX8_apart 4 = .ok (.ifCond .eq 10, 3) := by decide +kernel
theorem dX8_apart_7 : decode cX8_apart 7 = .ok (.iload_n 2, 1) := by decide +kernel
theorem dX8_apart_8 : decode cX8_apart 8 = .ok (.invokestatic 118, 3) := by decide +kernel
theorem dX8_apart_11 : decode cX8_apart 11 = .ok (.ifCond .ne 5, 3) := by decide +kernel
theorem dX8_apart_14 : decode cX8_apart 14 = .ok (.iconst (-1), 1) := by decide +kernel
theorem dX8_apart_15 : decode cX8_apart 15 = .ok (.ireturn, 1) := by decide +kernel
theorem dX8_apart_16 : decode cX8_apart 16 = .ok (.aload_n 0, 1) := by decide +kernel
theorem dX8_apart_17 : decode cX8_apart 17 = .ok (.invokevirtual 273, 3) := by decide +kernel
theorem dX8_apart_20 : decode cX8_apart 20 = .ok (.iconst 0, 1) := by decide +kernel
theorem dX8_apart_21 : decode cX8_apart 21 = .ok (.istore_n 3, 1) := by decide +kernel
theorem dX8_apart_22 : decode cX8_apart 22 = .ok (.iconst 0, 1) := by decide +kernel
theorem dX8_apart_23 : decode cX8_apart 23 = .ok (.istore 4, 2) := by decide +kernel
theorem dX8_apart_25 : decode cX8_apart 25 = .ok (.iload 4, 2) := by decide +kernel
theorem dX8_apart_27 : decode cX8_apart 27 = .ok (.aload_n 0, 1) := by decide +kernel
theorem dX8_apart_28 : decode cX8_apart 28 = .ok (.getfield 141, 3) := by decide +kernel
theorem dX8_apart_31 : decode cX8_apart 31 = .ok (.if_icmp .ge 36, 3) := by decide +kernel
theorem dX8_apart_34 : decode cX8_apart 34 = .ok (.aload_n 0, 1) := by decide +kernel
theorem dX8_apart_35 : decode cX8_apart 35 = .ok (.iload 4, 2) := by decide +kernel
theorem dX8_apart_37 : decode cX8_apart 37 = .ok (.invokevirtual 178, 3) := by decide +kernel
theorem dX8_apart_40 : decode cX8_apart 40 = .ok (.ifCond .eq 21, 3) := by decide +kernel
theorem dX8_apart_43 : decode cX8_apart 43 = .ok (.aload_n 0, 1) := by decide +kernel
theorem dX8_apart_44 : decode cX8_apart 44 = .ok (.getfield 25, 3) := by decide +kernel
theorem dX8_apart_47 : decode cX8_apart 47 = .ok (.iload 4, 2) := by decide +kernel
theorem dX8_apart_49 : decode cX8_apart 49 = .ok (.iaload, 1) := by decide +kernel
theorem dX8_apart_50 : decode cX8_apart 50 = .ok (.iload_n 2, 1) := by decide +kernel
theorem dX8_apart_51 : decode cX8_apart 51 = .ok (.if_icmp .gt 10, 3) := by decide +kernel
theorem dX8_apart_54 : decode cX8_apart 54 = .ok (.iload_n 3, 1) := by decide +kernel
theorem dX8_apart_55 : decode cX8_apart 55 = .ok (.iconst 1, 1) := by decide +kernel
theorem dX8_apart_56 : decode cX8_apart 56 = .ok (.iload 4, 2) := by decide +kernel
theorem dX8_apart_58 : decode cX8_apart 58 = .ok (.ishl, 1) := by decide +kernel
theorem dX8_apart_59 : decode cX8_apart 59 = .ok (.ior, 1) := by decide +kernel
theorem dX8_apart_60 : decode cX8_apart 60 = .ok (.istore_n 3, 1) := by decide +kernel
theorem dX8_apart_61 : decode cX8_apart 61 = .ok (.iinc 4 1, 3) := by decide +kernel
theorem dX8_apart_64 : decode cX8_apart 64 = .ok (.goto (-39), 3) := by decide +kernel
theorem dX8_apart_67 : decode cX8_apart 67 = .ok (.aload_n 0, 1) := by decide +kernel
theorem dX8_apart_68 : decode cX8_apart 68 = .ok (.iload_n 1, 1) := by decide +kernel
theorem dX8_apart_69 : decode cX8_apart 69 = .ok (.iload_n 2, 1) := by decide +kernel
theorem dX8_apart_70 : decode cX8_apart 70 = .ok (.iload_n 3, 1) := by decide +kernel
theorem dX8_apart_71 : decode cX8_apart 71 = .ok (.invokevirtual 307, 3) := by decide +kernel
theorem dX8_apart_74 : decode cX8_apart 74 = .ok (.ifCond .ne 6, 3) := by decide +kernel
theorem dX8_apart_77 : decode cX8_apart 77 = .ok (.bipush (-2), 2) := by decide +kernel
theorem dX8_apart_79 : decode cX8_apart 79 = .ok (.ireturn, 1) := by decide +kernel
theorem dX8_apart_80 : decode cX8_apart 80 = .ok (.iconst 0, 1) := by decide +kernel
theorem dX8_apart_81 : decode cX8_apart 81 = .ok (.istore 4, 2) := by decide +kernel
theorem dX8_apart_83 : decode cX8_apart 83 = .ok (.iload 4, 2) := by decide +kernel
theorem dX8_apart_85 : decode cX8_apart 85 = .ok (.aload_n 0, 1) := by decide +kernel
theorem dX8_apart_86 : decode cX8_apart 86 = .ok (.getfield 141, 3) := by decide +kernel
theorem dX8_apart_89 : decode cX8_apart 89 = .ok (.if_icmp .gt 57, 3) := by decide +kernel
theorem dX8_apart_92 : decode cX8_apart 92 = .ok (.iconst 0, 1) := by decide +kernel
theorem dX8_apart_93 : decode cX8_apart 93 = .ok (.istore 5, 2) := by decide +kernel
theorem dX8_apart_95 : decode cX8_apart 95 = .ok (.iload 5, 2) := by decide +kernel
theorem dX8_apart_97 : decode cX8_apart 97 = .ok (.iload_n 3, 1) := by decide +kernel
theorem dX8_apart_98 : decode cX8_apart 98 = .ok (.if_icmp .gt 42, 3) := by decide +kernel
theorem dX8_apart_101 : decode cX8_apart 101 = .ok (.iload 5, 2) := by decide +kernel
theorem dX8_apart_103 : decode cX8_apart 103 = .ok (.iload_n 3, 1) := by decide +kernel
theorem dX8_apart_104 : decode cX8_apart 104 = .ok (.iconst (-1), 1) := by decide +kernel
theorem dX8_apart_105 : decode cX8_apart 105 = .ok (.ixor, 1) := by decide +kernel
theorem dX8_apart_106 : decode cX8_apart 106 = .ok (.iand, 1) := by decide +kernel
theorem dX8_apart_107 : decode cX8_apart 107 = .ok (.ifCond .ne 27, 3) := by decide +kernel
theorem dX8_apart_110 : decode cX8_apart 110 = .ok (.iload 5, 2) := by decide +kernel
theorem dX8_apart_112 : decode cX8_apart 112 = .ok (.invokestatic 285, 3) := by decide +kernel
theorem dX8_apart_115 : decode cX8_apart 115 = .ok (.iload 4, 2) := by decide +kernel
theorem dX8_apart_117 : decode cX8_apart 117 = .ok (.if_icmp .ne 17, 3) := by decide +kernel
theorem dX8_apart_120 : decode cX8_apart 120 = .ok (.aload_n 0, 1) := by decide +kernel
theorem dX8_apart_121 : decode cX8_apart 121 = .ok (.iload_n 1, 1) := by decide +kernel
theorem dX8_apart_122 : decode cX8_apart 122 = .ok (.iload_n 2, 1) := by decide +kernel
theorem dX8_apart_123 : decode cX8_apart 123 = .ok (.iload 5, 2) := by decide +kernel
theorem dX8_apart_125 : decode cX8_apart 125 = .ok (.invokevirtual 307, 3) := by decide +kernel
theorem dX8_apart_128 : decode cX8_apart 128 = .ok (.ifCond .eq 6, 3) := by decide +kernel
theorem dX8_apart_131 : decode cX8_apart 131 = .ok (.iload 5, 2) := by decide +kernel
theorem dX8_apart_133 : decode cX8_apart 133 = .ok (.ireturn, 1) := by decide +kernel
theorem dX8_apart_134 : decode cX8_apart 134 = .ok (.iinc 5 1, 3) := by decide +kernel
theorem dX8_apart_137 : decode cX8_apart 137 = .ok (.goto (-42), 3) := by decide +kernel
theorem dX8_apart_140 : decode cX8_apart 140 = .ok (.iinc 4 1, 3) := by decide +kernel
theorem dX8_apart_143 : decode cX8_apart 143 = .ok (.goto (-60), 3) := by decide +kernel
theorem dX8_apart_146 : decode cX8_apart 146 = .ok (.bipush (-2), 2) := by decide +kernel
theorem dX8_apart_148 : decode cX8_apart 148 = .ok (.ireturn, 1) := by decide +kernel
theorem dX8_freed_0 : decode cX8_freed 0 = .ok (.aload_n 0, 1) := by decide +kernel
theorem dX8_freed_1 : decode cX8_freed 1 = .ok (.iload_n 1, 1) := by decide +kernel
theorem dX8_freed_2 : decode cX8_freed 2 = .ok (.invokevirtual 135, 3) := by decide +kernel
theorem dX8_freed_5 : decode cX8_freed 5 = .ok (.ifCond .eq 10, 3) := by decide +kernel
theorem dX8_freed_8 : decode cX8_freed 8 = .ok (.iload_n 2, 1) := by decide +kernel
theorem dX8_freed_9 : decode cX8_freed 9 = .ok (.invokestatic 118, 3) := by decide +kernel
theorem dX8_freed_12 : decode cX8_freed 12 = .ok (.ifCond .ne 5, 3) := by decide +kernel
theorem dX8_freed_15 : decode cX8_freed 15 = .ok (.iconst (-1), 1) := by decide +kernel
theorem dX8_freed_16 : decode cX8_freed 16 = .ok (.ireturn, 1) := by decide +kernel
theorem dX8_freed_17 : decode cX8_freed 17 = .ok (.aload_n 0, 1) := by decide +kernel
theorem dX8_freed_18 : decode cX8_freed 18 = .ok (.invokevirtual 273, 3) := by decide +kernel
theorem dX8_freed_21 : decode cX8_freed 21 = .ok (.aload_n 0, 1) := by decide +kernel
theorem dX8_freed_22 : decode cX8_freed 22 = .ok (.iload_n 2, 1) := by decide +kernel
theorem dX8_freed_23 : decode cX8_freed 23 = .ok (.iconst 0, 1) := by decide +kernel
theorem dX8_freed_24 : decode cX8_freed 24 = .ok (.invokevirtual 254, 3) := by decide +kernel
theorem dX8_freed_27 : decode cX8_freed 27 = .ok (.iconst 0, 1) := by decide +kernel
theorem dX8_freed_28 : decode cX8_freed 28 = .ok (.istore_n 3, 1) := by decide +kernel
theorem dX8_freed_29 : decode cX8_freed 29 = .ok (.iconst 0, 1) := by decide +kernel
theorem dX8_freed_30 : decode cX8_freed 30 = .ok (.istore 4, 2) := by decide +kernel
theorem dX8_freed_32 : decode cX8_freed 32 = .ok (.iload 4, 2) := by decide +kernel
theorem dX8_freed_34 : decode cX8_freed 34 = .ok (.bipush 12, 2) := by decide +kernel
theorem dX8_freed_36 : decode cX8_freed 36 = .ok (.if_icmp .ge 47, 3) := by decide +kernel
theorem dX8_freed_39 : decode cX8_freed 39 = .ok (.aload_n 0, 1) := by decide +kernel
theorem dX8_freed_40 : decode cX8_freed 40 = .ok (.iload 4, 2) := by decide +kernel
theorem dX8_freed_42 : decode cX8_freed 42 = .ok (.iload_n 2, 1) := by decide +kernel
theorem dX8_freed_43 : decode cX8_freed 43 = .ok (.aload_n 0, 1) := by decide +kernel
theorem dX8_freed_44 : decode cX8_freed 44 = .ok (.invokevirtual 276, 3) := by decide +kernel
theorem dX8_freed_47 : decode cX8_freed 47 = .ok (.invokevirtual 267, 3) := by decide +kernel
theorem dX8_freed_50 : decode cX8_freed 50 = .ok (.ifCond .ne 27, 3) := by decide +kernel
theorem dX8_freed_53 : decode cX8_freed 53 = .ok (.aload_n 0, 1) := by decide +kernel
theorem dX8_freed_54 : decode cX8_freed 54 = .ok (.iload 4, 2) := by decide +kernel
theorem dX8_freed_56 : decode cX8_freed 56 = .ok (.iload_n 2, 1) := by decide +kernel
theorem dX8_freed_57 : decode cX8_freed 57 = .ok (.aload_n 0, 1) := by decide +kernel
theorem dX8_freed_58 : decode cX8_freed 58 = .ok (.invokevirtual 276, 3) := by decide +kernel
theorem dX8_freed_61 : decode cX8_freed 61 = .ok (.invokevirtual 270, 3) := by decide +kernel
theorem dX8_freed_64 : decode cX8_freed 64 = .ok (.iconst 1, 1) := by decide +kernel
theorem dX8_freed_65 : decode cX8_freed 65 = .ok (.iload_n 1, 1) := by decide +kernel
theorem dX8_freed_66 : decode cX8_freed 66 = .ok (.ishl, 1) := by decide +kernel
theorem dX8_freed_67 : decode cX8_freed 67 = .ok (.if_icmp .ne 10, 3) := by decide +kernel
theorem dX8_freed_70 : decode cX8_freed 70 = .ok (.iload_n 3, 1) := by decide +kernel
theorem dX8_freed_71 : decode cX8_freed 71 = .ok (.iconst 1, 1) := by decide +kernel
theorem dX8_freed_72 : decode cX8_freed 72 = .ok (.iload 4, 2) := by decide +kernel
theorem dX8_freed_74 : decode cX8_freed 74 = .ok (.ishl, 1) := by decide +kernel
theorem dX8_freed_75 : decode cX8_freed 75 = .ok (.ior, 1) := by decide +kernel
theorem dX8_freed_76 : decode cX8_freed 76 = .ok (.istore_n 3, 1) := by decide +kernel
theorem dX8_freed_77 : decode cX8_freed 77 = .ok (.iinc 4 1, 3) := by decide +kernel
theorem dX8_freed_80 : decode cX8_freed 80 = .ok (.goto (-48), 3) := by decide +kernel
theorem dX8_freed_83 : decode cX8_freed 83 = .ok (.iload_n 3, 1) := by decide +kernel
theorem dX8_freed_84 : decode cX8_freed 84 = .ok (.ireturn, 1) := by decide +kernel
theorem dX8_never_0 : decode cX8_never 0 = .ok (.aload_n 0, 1) := by decide +kernel
theorem dX8_never_1 : decode cX8_never 1 = .ok (.iload_n 1, 1) := by decide +kernel
theorem dX8_never_2 : decode cX8_never 2 = .ok (.invokevirtual 135, 3) := by decide +kernel
theorem dX8_never_5 : decode cX8_never 5 = .ok (.ifCond .ne 5, 3) := by decide +kernel
theorem dX8_never_8 : decode cX8_never 8 = .ok (.iconst (-1), 1) := by decide +kernel
theorem dX8_never_9 : decode cX8_never 9 = .ok (.ireturn, 1) := by decide +kernel
theorem dX8_never_10 : decode cX8_never 10 = .ok (.iconst 0, 1) := by decide +kernel
theorem dX8_never_11 : decode cX8_never 11 = .ok (.istore_n 2, 1) := by decide +kernel
theorem dX8_never_12 : decode cX8_never 12 = .ok (.iconst 0, 1) := by decide +kernel
theorem dX8_never_13 : decode cX8_never 13 = .ok (.istore_n 3, 1) := by decide +kernel
theorem dX8_never_14 : decode cX8_never 14 = .ok (.iload_n 3, 1) := by decide +kernel
theorem dX8_never_15 : decode cX8_never 15 = .ok (.aload_n 0, 1) := by decide +kernel
theorem dX8_never_16 : decode cX8_never 16 = .ok (.getfield 111, 3) := by decide +kernel
theorem dX8_never_19 : decode cX8_never 19 = .ok (.if_icmp .ge 102, 3) := by decide +kernel
theorem dX8_never_22 : decode cX8_never 22 = .ok (.aload_n 0, 1) := by decide +kernel
theorem dX8_never_23 : decode cX8_never 23 = .ok (.getfield 16, 3) := by decide +kernel
theorem dX8_never_26 : decode cX8_never 26 = .ok (.iload_n 1, 1) := by decide +kernel
theorem dX8_never_27 : decode cX8_never 27 = .ok (.iaload, 1) := by decide +kernel
theorem dX8_never_28 : decode cX8_never 28 = .ok (.ifCond .lt 87, 3) := by decide +kernel
theorem dX8_never_31 : decode cX8_never 31 = .ok (.iload_n 3, 1) := by decide +kernel
theorem dX8_never_32 : decode cX8_never 32 = .ok (.iload_n 1, 1) := by decide +kernel
theorem dX8_never_33 : decode cX8_never 33 = .ok (.if_icmp .eq 82, 3) := by decide +kernel
theorem dX8_never_36 : decode cX8_never 36 = .ok (.aload_n 0, 1) := by decide +kernel
theorem dX8_never_37 : decode cX8_never 37 = .ok (.getfield 16, 3) := by decide +kernel
theorem dX8_never_40 : decode cX8_never 40 = .ok (.iload_n 3, 1) := by decide +kernel
theorem dX8_never_41 : decode cX8_never 41 = .ok (.iaload, 1) := by decide +kernel
theorem dX8_never_42 : decode cX8_never 42 = .ok (.aload_n 0, 1) := by decide +kernel
theorem dX8_never_43 : decode cX8_never 43 = .ok (.getfield 16, 3) := by decide +kernel
theorem dX8_never_46 : decode cX8_never 46 = .ok (.iload_n 1, 1) := by decide +kernel
theorem dX8_never_47 : decode cX8_never 47 = .ok (.iaload, 1) := by decide +kernel
theorem dX8_never_48 : decode cX8_never 48 = .ok (.if_icmp .ne 67, 3) := by decide +kernel
theorem dX8_never_51 : decode cX8_never 51 = .ok (.aload_n 0, 1) := by decide +kernel
theorem dX8_never_52 : decode cX8_never 52 = .ok (.iload_n 1, 1) := by decide +kernel
theorem dX8_never_53 : decode cX8_never 53 = .ok (.iload_n 3, 1) := by decide +kernel
theorem dX8_never_54 : decode cX8_never 54 = .ok (.invokevirtual 168, 3) := by decide +kernel
theorem dX8_never_57 : decode cX8_never 57 = .ok (.ifCond .ne 6, 3) := by decide +kernel
theorem dX8_never_60 : decode cX8_never 60 = .ok (.goto 55, 3) := by decide +kernel
theorem dX8_never_63 : decode cX8_never 63 = .ok (.iconst 0, 1) := by decide +kernel
theorem dX8_never_64 : decode cX8_never 64 = .ok (.istore 4, 2) := by decide +kernel
theorem dX8_never_66 : decode cX8_never 66 = .ok (.iload 4, 2) := by decide +kernel
theorem dX8_never_68 : decode cX8_never 68 = .ok (.aload_n 0, 1) := by decide +kernel
theorem dX8_never_69 : decode cX8_never 69 = .ok (.getfield 111, 3) := by decide +kernel
theorem dX8_never_72 : decode cX8_never 72 = .ok (.if_icmp .ge 43, 3) := by decide +kernel
theorem dX8_never_75 : decode cX8_never 75 = .ok (.iload 4, 2) := by decide +kernel
theorem dX8_never_77 : decode cX8_never 77 = .ok (.iload_n 1, 1) := by decide +kernel
theorem dX8_never_78 : decode cX8_never 78 = .ok (.if_icmp .eq 31, 3) := by decide +kernel
theorem dX8_never_81 : decode cX8_never 81 = .ok (.iload 4, 2) := by decide +kernel
theorem dX8_never_83 : decode cX8_never 83 = .ok (.iload_n 3, 1) := by decide +kernel
theorem dX8_never_84 : decode cX8_never 84 = .ok (.if_icmp .eq 25, 3) := by decide +kernel
theorem dX8_never_87 : decode cX8_never 87 = .ok (.aload_n 0, 1) := by decide +kernel
theorem dX8_never_88 : decode cX8_never 88 = .ok (.iload 4, 2) := by decide +kernel
theorem dX8_never_90 : decode cX8_never 90 = .ok (.aload_n 0, 1) := by decide +kernel
theorem dX8_never_91 : decode cX8_never 91 = .ok (.getfield 7, 3) := by decide +kernel
theorem dX8_never_94 : decode cX8_never 94 = .ok (.iload_n 3, 1) := by decide +kernel
theorem dX8_never_95 : decode cX8_never 95 = .ok (.iaload, 1) := by decide +kernel
theorem dX8_never_96 : decode cX8_never 96 = .ok (.invokevirtual 138, 3) := by decide +kernel
theorem dX8_never_99 : decode cX8_never 99 = .ok (.ifCond .eq 10, 3) := by decide +kernel
theorem dX8_never_102 : decode cX8_never 102 = .ok (.iload_n 2, 1) := by decide +kernel
theorem dX8_never_103 : decode cX8_never 103 = .ok (.iconst 1, 1) := by decide +kernel
theorem dX8_never_104 : decode cX8_never 104 = .ok (.iload 4, 2) := by decide +kernel
theorem dX8_never_106 : decode cX8_never 106 = .ok (.ishl, 1) := by decide +kernel
theorem dX8_never_107 : decode cX8_never 107 = .ok (.ior, 1) := by decide +kernel
theorem dX8_never_108 : decode cX8_never 108 = .ok (.istore_n 2, 1) := by decide +kernel
theorem dX8_never_109 : decode cX8_never 109 = .ok (.iinc 4 1, 3) := by decide +kernel
theorem dX8_never_112 : decode cX8_never 112 = .ok (.goto (-46), 3) := by decide +kernel
theorem dX8_never_115 : decode cX8_never 115 = .ok (.iinc 3 1, 3) := by decide +kernel
theorem dX8_never_118 : decode cX8_never 118 = .ok (.goto (-104), 3) := by decide +kernel
theorem dX8_never_121 : decode cX8_never 121 = .ok (.iload_n 2, 1) := by decide +kernel
theorem dX8_never_122 : decode cX8_never 122 = .ok (.ireturn, 1) := by decide +kernel
theorem dX8_needs_0 : decode cX8_needs 0 = .ok (.iload_n 2, 1) := by decide +kernel
theorem dX8_needs_1 : decode cX8_needs 1 = .ok (.iconst 1, 1) := by decide +kernel
theorem dX8_needs_2 : decode cX8_needs 2 = .ok (.bipush 20, 2) := by decide +kernel
theorem dX8_needs_4 : decode cX8_needs 4 = .ok (.invokestatic 114, 3) := by decide +kernel
theorem dX8_needs_7 : decode cX8_needs 7 = .ok (.ifCond .eq 12, 3) := by decide +kernel
theorem dX8_needs_10 : decode cX8_needs 10 = .ok (.iload_n 3, 1) := by decide +kernel
theorem dX8_needs_11 : decode cX8_needs 11 = .ok (.iconst 0, 1) := by decide +kernel
theorem dX8_needs_12 : decode cX8_needs 12 = .ok (.iconst 1, 1) := by decide +kernel
theorem dX8_needs_13 : decode cX8_needs 13 = .ok (.invokestatic 114, 3) := by decide +kernel
theorem dX8_needs_16 : decode cX8_needs 16 = .ok (.ifCond .ne 5, 3) := by decide +kernel
theorem dX8_needs_19 : decode cX8_needs 19 = .ok (.iconst (-1), 1) := by decide +kernel
theorem dX8_needs_20 : decode cX8_needs 20 = .ok (.ireturn, 1) := by decide +kernel
theorem dX8_needs_21 : decode cX8_needs 21 = .ok (.iconst 0, 1) := by decide +kernel
theorem dX8_needs_22 : decode cX8_needs 22 = .ok (.istore 4, 2) := by decide +kernel
theorem dX8_needs_24 : decode cX8_needs 24 = .ok (.iload 4, 2) := by decide +kernel
theorem dX8_needs_26 : decode cX8_needs 26 = .ok (.aload_n 0, 1) := by decide +kernel
theorem dX8_needs_27 : decode cX8_needs 27 = .ok (.getfield 111, 3) := by decide +kernel
theorem dX8_needs_30 : decode cX8_needs 30 = .ok (.if_icmp .ge 23, 3) := by decide +kernel
theorem dX8_needs_33 : decode cX8_needs 33 = .ok (.aload_n 0, 1) := by decide +kernel
theorem dX8_needs_34 : decode cX8_needs 34 = .ok (.getfield 82, 3) := by decide +kernel
theorem dX8_needs_37 : decode cX8_needs 37 = .ok (.iload 4, 2) := by decide +kernel
theorem dX8_needs_39 : decode cX8_needs 39 = .ok (.aload_n 0, 1) := by decide +kernel
theorem dX8_needs_40 : decode cX8_needs 40 = .ok (.getfield 13, 3) := by decide +kernel
theorem dX8_needs_43 : decode cX8_needs 43 = .ok (.iload 4, 2) := by decide +kernel
theorem dX8_needs_45 : decode cX8_needs 45 = .ok (.iaload, 1) := by decide +kernel
theorem dX8_needs_46 : decode cX8_needs 46 = .ok (.iastore, 1) := by decide +kernel
theorem dX8_needs_47 : decode cX8_needs 47 = .ok (.iinc 4 1, 3) := by decide +kernel
theorem dX8_needs_50 : decode cX8_needs 50 = .ok (.goto (-26), 3) := by decide +kernel
theorem dX8_needs_53 : decode cX8_needs 53 = .ok (.iload_n 1, 1) := by decide +kernel
theorem dX8_needs_54 : decode cX8_needs 54 = .ok (.istore 4, 2) := by decide +kernel
theorem dX8_needs_56 : decode cX8_needs 56 = .ok (.iconst 0, 1) := by decide +kernel
theorem dX8_needs_57 : decode cX8_needs 57 = .ok (.istore 5, 2) := by decide +kernel
theorem dX8_needs_59 : decode cX8_needs 59 = .ok (.iconst 0, 1) := by decide +kernel
theorem dX8_needs_60 : decode cX8_needs 60 = .ok (.istore 6, 2) := by decide +kernel
theorem dX8_needs_62 : decode cX8_needs 62 = .ok (.iconst 0, 1) := by decide +kernel
theorem dX8_needs_63 : decode cX8_needs 63 = .ok (.istore 7, 2) := by decide +kernel
theorem dX8_needs_65 : decode cX8_needs 65 = .ok (.iload 7, 2) := by decide +kernel
theorem dX8_needs_67 : decode cX8_needs 67 = .ok (.iload_n 2, 1) := by decide +kernel
theorem dX8_needs_68 : decode cX8_needs 68 = .ok (.if_icmp .ge 101, 3) := by decide +kernel
theorem dX8_needs_71 : decode cX8_needs 71 = .ok (.iconst 0, 1) := by decide +kernel
theorem dX8_needs_72 : decode cX8_needs 72 = .ok (.istore 8, 2) := by decide +kernel
theorem dX8_needs_74 : decode cX8_needs 74 = .ok (.iload 8, 2) := by decide +kernel
theorem dX8_needs_76 : decode cX8_needs 76 = .ok (.aload_n 0, 1) := by decide +kernel
theorem dX8_needs_77 : decode cX8_needs 77 = .ok (.getfield 111, 3) := by decide +kernel
theorem dX8_needs_80 : decode cX8_needs 80 = .ok (.if_icmp .ge 54, 3) := by decide +kernel
theorem dX8_needs_83 : decode cX8_needs 83 = .ok (.iload 4, 2) := by decide +kernel
theorem dX8_needs_85 : decode cX8_needs 85 = .ok (.ldc_w 310, 3) := by decide +kernel
theorem dX8_needs_88 : decode cX8_needs 88 = .ok (.imul, 1) := by decide +kernel
theorem dX8_needs_89 : decode cX8_needs 89 = .ok (.sipush 12345, 3) := by decide +kernel
theorem dX8_needs_92 : decode cX8_needs 92 = .ok (.iadd, 1) := by decide +kernel
theorem dX8_needs_93 : decode cX8_needs 93 = .ok (.istore 4, 2) := by decide +kernel
theorem dX8_needs_95 : decode cX8_needs 95 = .ok (.aload_n 0, 1) := by decide +kernel
theorem dX8_needs_96 : decode cX8_needs 96 = .ok (.getfield 13, 3) := by decide +kernel
theorem dX8_needs_99 : decode cX8_needs 99 = .ok (.iload 8, 2) := by decide +kernel
theorem dX8_needs_101 : decode cX8_needs 101 = .ok (.aload_n 0, 1) := by decide +kernel
theorem dX8_needs_102 : decode cX8_needs 102 = .ok (.getfield 7, 3) := by decide +kernel
theorem dX8_needs_105 : decode cX8_needs 105 = .ok (.iload 8, 2) := by decide +kernel
theorem dX8_needs_107 : decode cX8_needs 107 = .ok (.iaload, 1) := by decide +kernel
theorem dX8_needs_108 : decode cX8_needs 108 = .ok (.iconst 1, 1) := by decide +kernel
theorem dX8_needs_109 : decode cX8_needs 109 = .ok (.iadd, 1) := by decide +kernel
theorem dX8_needs_110 : decode cX8_needs 110 = .ok (.iload 4, 2) := by decide +kernel
theorem dX8_needs_112 : decode cX8_needs 112 = .ok (.bipush 8, 2) := by decide +kernel
theorem dX8_needs_114 : decode cX8_needs 114 = .ok (.iushr, 1) := by decide +kernel
theorem dX8_needs_115 : decode cX8_needs 115 = .ok (.bipush 100, 2) := by decide +kernel
theorem dX8_needs_117 : decode cX8_needs 117 = .ok (.aload_n 0, 1) := by decide +kernel
theorem dX8_needs_118 : decode cX8_needs 118 = .ok (.getfield 7, 3) := by decide +kernel
theorem dX8_needs_121 : decode cX8_needs 121 = .ok (.iload 8, 2) := by decide +kernel
theorem dX8_needs_123 : decode cX8_needs 123 = .ok (.iaload, 1) := by decide +kernel
theorem dX8_needs_124 : decode cX8_needs 124 = .ok (.isub, 1) := by decide +kernel
theorem dX8_needs_125 : decode cX8_needs 125 = .ok (.irem, 1) := by decide +kernel
theorem dX8_needs_126 : decode cX8_needs 126 = .ok (.iadd, 1) := by decide +kernel
theorem dX8_needs_127 : decode cX8_needs 127 = .ok (.iastore, 1) := by decide +kernel
theorem dX8_needs_128 : decode cX8_needs 128 = .ok (.iinc 8 1, 3) := by decide +kernel
theorem dX8_needs_131 : decode cX8_needs 131 = .ok (.goto (-57), 3) := by decide +kernel
theorem dX8_needs_134 : decode cX8_needs 134 = .ok (.aload_n 0, 1) := by decide +kernel
theorem dX8_needs_135 : decode cX8_needs 135 = .ok (.iconst 0, 1) := by decide +kernel
theorem dX8_needs_136 : decode cX8_needs 136 = .ok (.invokevirtual 300, 3) := by decide +kernel
theorem dX8_needs_139 : decode cX8_needs 139 = .ok (.aload_n 0, 1) := by decide +kernel
theorem dX8_needs_140 : decode cX8_needs 140 = .ok (.invokevirtual 304, 3) := by decide +kernel
theorem dX8_needs_143 : decode cX8_needs 143 = .ok (.istore 8, 2) := by decide +kernel
theorem dX8_needs_145 : decode cX8_needs 145 = .ok (.iload 5, 2) := by decide +kernel
theorem dX8_needs_147 : decode cX8_needs 147 = .ok (.iload 8, 2) := by decide +kernel
theorem dX8_needs_149 : decode cX8_needs 149 = .ok (.iadd, 1) := by decide +kernel
theorem dX8_needs_150 : decode cX8_needs 150 = .ok (.istore 5, 2) := by decide +kernel
theorem dX8_needs_152 : decode cX8_needs 152 = .ok (.iload 8, 2) := by decide +kernel
theorem dX8_needs_154 : decode cX8_needs 154 = .ok (.iload 6, 2) := by decide +kernel
theorem dX8_needs_156 : decode cX8_needs 156 = .ok (.if_icmp .le 7, 3) := by decide +kernel
theorem dX8_needs_159 : decode cX8_needs 159 = .ok (.iload 8, 2) := by decide +kernel
theorem dX8_needs_161 : decode cX8_needs 161 = .ok (.istore 6, 2) := by decide +kernel
theorem dX8_needs_163 : decode cX8_needs 163 = .ok (.iinc 7 1, 3) := by decide +kernel
theorem dX8_needs_166 : decode cX8_needs 166 = .ok (.goto (-101), 3) := by decide +kernel
theorem dX8_needs_169 : decode cX8_needs 169 = .ok (.iconst 0, 1) := by decide +kernel
theorem dX8_needs_170 : decode cX8_needs 170 = .ok (.istore 7, 2) := by decide +kernel
theorem dX8_needs_172 : decode cX8_needs 172 = .ok (.iload 7, 2) := by decide +kernel
theorem dX8_needs_174 : decode cX8_needs 174 = .ok (.aload_n 0, 1) := by decide +kernel
theorem dX8_needs_175 : decode cX8_needs 175 = .ok (.getfield 111, 3) := by decide +kernel
theorem dX8_needs_178 : decode cX8_needs 178 = .ok (.if_icmp .ge 23, 3) := by decide +kernel
theorem dX8_needs_181 : decode cX8_needs 181 = .ok (.aload_n 0, 1) := by decide +kernel
theorem dX8_needs_182 : decode cX8_needs 182 = .ok (.getfield 13, 3) := by decide +kernel
theorem dX8_needs_185 : decode cX8_needs 185 = .ok (.iload 7, 2) := by decide +kernel
theorem dX8_needs_187 : decode cX8_needs 187 = .ok (.aload_n 0, 1) := by decide +kernel
theorem dX8_needs_188 : decode cX8_needs 188 = .ok (.getfield 82, 3) := by decide +kernel
theorem dX8_needs_191 : decode cX8_needs 191 = .ok (.iload 7, 2) := by decide +kernel
theorem dX8_needs_193 : decode cX8_needs 193 = .ok (.iaload, 1) := by decide +kernel
theorem dX8_needs_194 : decode cX8_needs 194 = .ok (.iastore, 1) := by decide +kernel
theorem dX8_needs_195 : decode cX8_needs 195 = .ok (.iinc 7 1, 3) := by decide +kernel
theorem dX8_needs_198 : decode cX8_needs 198 = .ok (.goto (-26), 3) := by decide +kernel
theorem dX8_needs_201 : decode cX8_needs 201 = .ok (.iload_n 3, 1) := by decide +kernel
theorem dX8_needs_202 : decode cX8_needs 202 = .ok (.ifCond .ne 10, 3) := by decide +kernel
theorem dX8_needs_205 : decode cX8_needs 205 = .ok (.iload 5, 2) := by decide +kernel
theorem dX8_needs_207 : decode cX8_needs 207 = .ok (.iload_n 2, 1) := by decide +kernel
theorem dX8_needs_208 : decode cX8_needs 208 = .ok (.idiv, 1) := by decide +kernel
theorem dX8_needs_209 : decode cX8_needs 209 = .ok (.goto 5, 3) := by decide +kernel
theorem dX8_needs_212 : decode cX8_needs 212 = .ok (.iload 6, 2) := by decide +kernel
theorem dX8_needs_214 : decode cX8_needs 214 = .ok (.ireturn, 1) := by decide +kernel
theorem dX8_image_0 : decode cX8_image 0 = .ok (.aload_n 0, 1) := by decide +kernel
theorem dX8_image_1 : decode cX8_image 1 = .ok (.iconst 1, 1) := by decide +kernel
theorem dX8_image_2 : decode cX8_image 2 = .ok (.putfield 311, 3) := by decide +kernel
theorem dX8_image_5 : decode cX8_image 5 = .ok (.aload_n 0, 1) := by decide +kernel
theorem dX8_image_6 : decode cX8_image 6 = .ok (.aload_n 0, 1) := by decide +kernel
theorem dX8_image_7 : decode cX8_image 7 = .ok (.getfield 111, 3) := by decide +kernel
theorem dX8_image_10 : decode cX8_image 10 = .ok (.putfield 314, 3) := by decide +kernel
theorem dX8_image_13 : decode cX8_image 13 = .ok (.iconst 0, 1) := by decide +kernel
theorem dX8_image_14 : decode cX8_image 14 = .ok (.istore_n 1, 1) := by decide +kernel
theorem dX8_image_15 : decode cX8_image 15 = .ok (.iload_n 1, 1) := by decide +kernel
theorem dX8_image_16 : decode cX8_image 16 = .ok (.aload_n 0, 1) := by decide +kernel
theorem dX8_image_17 : decode cX8_image 17 = .ok (.getfield 111, 3) := by decide +kernel
theorem dX8_image_20 : decode cX8_image 20 = .ok (.if_icmp .ge 21, 3) := by decide +kernel
theorem dX8_image_23 : decode cX8_image 23 = .ok (.aload_n 0, 1) := by decide +kernel
theorem dX8_image_24 : decode cX8_image 24 = .ok (.getfield 85, 3) := by decide +kernel
theorem dX8_image_27 : decode cX8_image 27 = .ok (.iload_n 1, 1) := by decide +kernel
theorem dX8_image_28 : decode cX8_image 28 = .ok (.aload_n 0, 1) := by decide +kernel
theorem dX8_image_29 : decode cX8_image 29 = .ok (.getfield 16, 3) := by decide +kernel
theorem dX8_image_32 : decode cX8_image 32 = .ok (.iload_n 1, 1) := by decide +kernel
theorem dX8_image_33 : decode cX8_image 33 = .ok (.iaload, 1) := by decide +kernel
theorem dX8_image_34 : decode cX8_image 34 = .ok (.iastore, 1) := by decide +kernel
theorem dX8_image_35 : decode cX8_image 35 = .ok (.iinc 1 1, 3) := by decide +kernel
theorem dX8_image_38 : decode cX8_image 38 = .ok (.goto (-23), 3) := by decide +kernel
theorem dX8_image_41 : decode cX8_image 41 = .ok (.aload_n 0, 1) := by decide +kernel
theorem dX8_image_42 : decode cX8_image 42 = .ok (.getfield 111, 3) := by decide +kernel
theorem dX8_image_45 : decode cX8_image 45 = .ok (.ireturn, 1) := by decide +kernel
theorem dX8_back_0 : decode cX8_back 0 = .ok (.aload_n 0, 1) := by decide +kernel
theorem dX8_back_1 : decode cX8_back 1 = .ok (.getfield 311, 3) := by decide +kernel
theorem dX8_back_4 : decode cX8_back 4 = .ok (.ifCond .ne 6, 3) := by decide +kernel
theorem dX8_back_7 : decode cX8_back 7 = .ok (.bipush (-5), 2) := by decide +kernel
theorem dX8_back_9 : decode cX8_back 9 = .ok (.ireturn, 1) := by decide +kernel
theorem dX8_back_10 : decode cX8_back 10 = .ok (.iconst 0, 1) := by decide +kernel
theorem dX8_back_11 : decode cX8_back 11 = .ok (.istore_n 1, 1) := by decide +kernel
theorem dX8_back_12 : decode cX8_back 12 = .ok (.iload_n 1, 1) := by decide +kernel
theorem dX8_back_13 : decode cX8_back 13 = .ok (.aload_n 0, 1) := by decide +kernel
theorem dX8_back_14 : decode cX8_back 14 = .ok (.getfield 314, 3) := by decide +kernel
theorem dX8_back_17 : decode cX8_back 17 = .ok (.if_icmp .ge 21, 3) := by decide +kernel
theorem dX8_back_20 : decode cX8_back 20 = .ok (.aload_n 0, 1) := by decide +kernel
theorem dX8_back_21 : decode cX8_back 21 = .ok (.getfield 16, 3) := by decide +kernel
theorem dX8_back_24 : decode cX8_back 24 = .ok (.iload_n 1, 1) := by decide +kernel
theorem dX8_back_25 : decode cX8_back 25 = .ok (.aload_n 0, 1) := by decide +kernel
theorem dX8_back_26 : decode cX8_back 26 = .ok (.getfield 85, 3) := by decide +kernel
theorem dX8_back_29 : decode cX8_back 29 = .ok (.iload_n 1, 1) := by decide +kernel
theorem dX8_back_30 : decode cX8_back 30 = .ok (.iaload, 1) := by decide +kernel
theorem dX8_back_31 : decode cX8_back 31 = .ok (.iastore, 1) := by decide +kernel
theorem dX8_back_32 : decode cX8_back 32 = .ok (.iinc 1 1, 3) := by decide +kernel
theorem dX8_back_35 : decode cX8_back 35 = .ok (.goto (-23), 3) := by decide +kernel
theorem dX8_back_38 : decode cX8_back 38 = .ok (.aload_n 0, 1) := by decide +kernel
theorem dX8_back_39 : decode cX8_back 39 = .ok (.getfield 314, 3) := by decide +kernel
theorem dX8_back_42 : decode cX8_back 42 = .ok (.ireturn, 1) := by decide +kernel
theorem dX8_isBody_0 : decode cX8_isBody 0 = .ok (.iload_n 1, 1) := by decide +kernel
theorem dX8_isBody_1 : decode cX8_isBody 1 = .ok (.iconst 0, 1) := by decide +kernel
theorem dX8_isBody_2 : decode cX8_isBody 2 = .ok (.aload_n 0, 1) := by decide +kernel
theorem dX8_isBody_3 : decode cX8_isBody 3 = .ok (.getfield 317, 3) := by decide +kernel
theorem dX8_isBody_6 : decode cX8_isBody 6 = .ok (.iconst 1, 1) := by decide +kernel
theorem dX8_isBody_7 : decode cX8_isBody 7 = .ok (.isub, 1) := by decide +kernel
theorem dX8_isBody_8 : decode cX8_isBody 8 = .ok (.invokestatic 114, 3) := by decide +kernel
theorem dX8_isBody_11 : decode cX8_isBody 11 = .ok (.ireturn, 1) := by decide +kernel
theorem dX8_ran_0 : decode cX8_ran 0 = .ok (.aload_n 0, 1) := by decide +kernel
theorem dX8_ran_1 : decode cX8_ran 1 = .ok (.getfield 320, 3) := by decide +kernel
theorem dX8_ran_4 : decode cX8_ran 4 = .ok (.bipush 24, 2) := by decide +kernel
theorem dX8_ran_6 : decode cX8_ran 6 = .ok (.if_icmp .ge 13, 3) := by decide +kernel
theorem dX8_ran_9 : decode cX8_ran 9 = .ok (.aload_n 0, 1) := by decide +kernel
theorem dX8_ran_10 : decode cX8_ran 10 = .ok (.getfield 91, 3) := by decide +kernel
theorem dX8_ran_13 : decode cX8_ran 13 = .ok (.aload_n 0, 1) := by decide +kernel
theorem dX8_ran_14 : decode cX8_ran 14 = .ok (.getfield 320, 3) := by decide +kernel
theorem dX8_ran_17 : decode cX8_ran 17 = .ok (.iload_n 1, 1) := by decide +kernel
theorem dX8_ran_18 : decode cX8_ran 18 = .ok (.iastore, 1) := by decide +kernel
theorem dX8_ran_19 : decode cX8_ran 19 = .ok (.aload_n 0, 1) := by decide +kernel
theorem dX8_ran_20 : decode cX8_ran 20 = .ok (.dup, 1) := by decide +kernel
theorem dX8_ran_21 : decode cX8_ran 21 = .ok (.getfield 320, 3) := by decide +kernel
theorem dX8_ran_24 : decode cX8_ran 24 = .ok (.iconst 1, 1) := by decide +kernel
theorem dX8_ran_25 : decode cX8_ran 25 = .ok (.iadd, 1) := by decide +kernel
theorem dX8_ran_26 : decode cX8_ran 26 = .ok (.putfield 320, 3) := by decide +kernel
theorem dX8_ran_29 : decode cX8_ran 29 = .ok (.return_, 1) := by decide +kernel
theorem dX8_trace_0 : decode cX8_trace 0 = .ok (.iload_n 1, 1) := by decide +kernel
theorem dX8_trace_1 : decode cX8_trace 1 = .ok (.ifCond .lt 26, 3) := by decide +kernel
theorem dX8_trace_4 : decode cX8_trace 4 = .ok (.iload_n 1, 1) := by decide +kernel
theorem dX8_trace_5 : decode cX8_trace 5 = .ok (.aload_n 0, 1) := by decide +kernel
theorem dX8_trace_6 : decode cX8_trace 6 = .ok (.getfield 320, 3) := by decide +kernel
theorem dX8_trace_9 : decode cX8_trace 9 = .ok (.if_icmp .ge 18, 3) := by decide +kernel
theorem dX8_trace_12 : decode cX8_trace 12 = .ok (.iload_n 1, 1) := by decide +kernel
theorem dX8_trace_13 : decode cX8_trace 13 = .ok (.bipush 24, 2) := by decide +kernel
theorem dX8_trace_15 : decode cX8_trace 15 = .ok (.if_icmp .ge 12, 3) := by decide +kernel
theorem dX8_trace_18 : decode cX8_trace 18 = .ok (.aload_n 0, 1) := by decide +kernel
theorem dX8_trace_19 : decode cX8_trace 19 = .ok (.getfield 91, 3) := by decide +kernel
theorem dX8_trace_22 : decode cX8_trace 22 = .ok (.iload_n 1, 1) := by decide +kernel
theorem dX8_trace_23 : decode cX8_trace 23 = .ok (.iaload, 1) := by decide +kernel
theorem dX8_trace_24 : decode cX8_trace 24 = .ok (.goto 4, 3) := by decide +kernel
theorem dX8_trace_27 : decode cX8_trace 27 = .ok (.iconst (-1), 1) := by decide +kernel
theorem dX8_trace_28 : decode cX8_trace 28 = .ok (.ireturn, 1) := by decide +kernel
theorem dX8_body_0 : decode cX8_body 0 = .ok (.iload_n 1, 1) := by decide +kernel
theorem dX8_body_1 : decode cX8_body 1 = .ok (.iconst 0, 1) := by decide +kernel
theorem dX8_body_2 : decode cX8_body 2 = .ok (.bipush 7, 2) := by decide +kernel
theorem dX8_body_4 : decode cX8_body 4 = .ok (.invokestatic 114, 3) := by decide +kernel
theorem dX8_body_7 : decode cX8_body 7 = .ok (.ifCond .ne 5, 3) := by decide +kernel
theorem dX8_body_10 : decode cX8_body 10 = .ok (.iconst (-1), 1) := by decide +kernel
theorem dX8_body_11 : decode cX8_body 11 = .ok (.ireturn, 1) := by decide +kernel
theorem dX8_body_12 : decode cX8_body 12 = .ok (.aload_n 0, 1) := by decide +kernel
theorem dX8_body_13 : decode cX8_body 13 = .ok (.getfield 317, 3) := by decide +kernel
theorem dX8_body_16 : decode cX8_body 16 = .ok (.bipush 50, 2) := by decide +kernel
theorem dX8_body_18 : decode cX8_body 18 = .ok (.if_icmp .ne 6, 3) := by decide +kernel
theorem dX8_body_21 : decode cX8_body 21 = .ok (.bipush (-3), 2) := by decide +kernel
theorem dX8_body_23 : decode cX8_body 23 = .ok (.ireturn, 1) := by decide +kernel
theorem dX8_body_24 : decode cX8_body 24 = .ok (.aload_n 0, 1) := by decide +kernel
theorem dX8_body_25 : decode cX8_body 25 = .ok (.getfield 88, 3) := by decide +kernel
theorem dX8_body_28 : decode cX8_body 28 = .ok (.aload_n 0, 1) := by decide +kernel
theorem dX8_body_29 : decode cX8_body 29 = .ok (.getfield 317, 3) := by decide +kernel
theorem dX8_body_32 : decode cX8_body 32 = .ok (.iload_n 1, 1) := by decide +kernel
theorem dX8_body_33 : decode cX8_body 33 = .ok (.iastore, 1) := by decide +kernel
theorem dX8_body_34 : decode cX8_body 34 = .ok (.aload_n 0, 1) := by decide +kernel
theorem dX8_body_35 : decode cX8_body 35 = .ok (.dup, 1) := by decide +kernel
theorem dX8_body_36 : decode cX8_body 36 = .ok (.getfield 317, 3) := by decide +kernel
theorem dX8_body_39 : decode cX8_body 39 = .ok (.iconst 1, 1) := by decide +kernel
theorem dX8_body_40 : decode cX8_body 40 = .ok (.iadd, 1) := by decide +kernel
theorem dX8_body_41 : decode cX8_body 41 = .ok (.putfield 317, 3) := by decide +kernel
theorem dX8_body_44 : decode cX8_body 44 = .ok (.aload_n 0, 1) := by decide +kernel
theorem dX8_body_45 : decode cX8_body 45 = .ok (.getfield 317, 3) := by decide +kernel
theorem dX8_body_48 : decode cX8_body 48 = .ok (.iconst 1, 1) := by decide +kernel
theorem dX8_body_49 : decode cX8_body 49 = .ok (.isub, 1) := by decide +kernel
theorem dX8_body_50 : decode cX8_body 50 = .ok (.ireturn, 1) := by decide +kernel
theorem dX8_isUnder_0 : decode cX8_isUnder 0 = .ok (.iload_n 1, 1) := by decide +kernel
theorem dX8_isUnder_1 : decode cX8_isUnder 1 = .ok (.ifCond .eq 55, 3) := by decide +kernel
theorem dX8_isUnder_4 : decode cX8_isUnder 4 = .ok (.iload_n 0, 1) := by decide +kernel
theorem dX8_isUnder_5 : decode cX8_isUnder 5 = .ok (.iload_n 1, 1) := by decide +kernel
theorem dX8_isUnder_6 : decode cX8_isUnder 6 = .ok (.if_icmp .eq 50, 3) := by decide +kernel
theorem dX8_isUnder_9 : decode cX8_isUnder 9 = .ok (.iload_n 1, 1) := by decide +kernel
theorem dX8_isUnder_10 : decode cX8_isUnder 10 = .ok (.iconst 1, 1) := by decide +kernel
theorem dX8_isUnder_11 : decode cX8_isUnder 11 = .ok (.if_icmp .ne 8, 3) := by decide +kernel
theorem dX8_isUnder_14 : decode cX8_isUnder 14 = .ok (.iload_n 0, 1) := by decide +kernel
theorem dX8_isUnder_15 : decode cX8_isUnder 15 = .ok (.iconst 4, 1) := by decide +kernel
theorem dX8_isUnder_16 : decode cX8_isUnder 16 = .ok (.if_icmp .eq 40, 3) := by decide +kernel
theorem dX8_isUnder_19 : decode cX8_isUnder 19 = .ok (.iload_n 1, 1) := by decide +kernel
theorem dX8_isUnder_20 : decode cX8_isUnder 20 = .ok (.iconst 2, 1) := by decide +kernel
theorem dX8_isUnder_21 : decode cX8_isUnder 21 = .ok (.if_icmp .ne 13, 3) := by decide +kernel
theorem dX8_isUnder_24 : decode cX8_isUnder 24 = .ok (.iload_n 0, 1) := by decide +kernel
theorem dX8_isUnder_25 : decode cX8_isUnder 25 = .ok (.iconst 3, 1) := by decide +kernel
theorem dX8_isUnder_26 : decode cX8_isUnder 26 = .ok (.if_icmp .eq 30, 3) := by decide +kernel
theorem dX8_isUnder_29 : decode cX8_isUnder 29 = .ok (.iload_n 0, 1) := by decide +kernel
theorem dX8_isUnder_30 : decode cX8_isUnder 30 = .ok (.iconst 5, 1) := by decide +kernel
theorem dX8_isUnder_31 : decode cX8_isUnder 31 = .ok (.if_icmp .eq 25, 3) := by decide +kernel
theorem dX8_isUnder_34 : decode cX8_isUnder 34 = .ok (.iload_n 1, 1) := by decide +kernel
theorem dX8_isUnder_35 : decode cX8_isUnder 35 = .ok (.iconst 3, 1) := by decide +kernel
theorem dX8_isUnder_36 : decode cX8_isUnder 36 = .ok (.if_icmp .ne 8, 3) := by decide +kernel
theorem dX8_isUnder_39 : decode cX8_isUnder 39 = .ok (.iload_n 0, 1) := by decide +kernel
theorem dX8_isUnder_40 : decode cX8_isUnder 40 = .ok (.iconst 5, 1) := by decide +kernel
theorem dX8_isUnder_41 : decode cX8_isUnder 41 = .ok (.if_icmp .eq 15, 3) := by decide +kernel
theorem dX8_isUnder_44 : decode cX8_isUnder 44 = .ok (.iload_n 1, 1) := by decide +kernel
theorem dX8_isUnder_45 : decode cX8_isUnder 45 = .ok (.bipush 6, 2) := by decide +kernel
theorem dX8_isUnder_47 : decode cX8_isUnder 47 = .ok (.if_icmp .ne 13, 3) := by decide +kernel
theorem dX8_isUnder_50 : decode cX8_isUnder 50 = .ok (.iload_n 0, 1) := by decide +kernel
theorem dX8_isUnder_51 : decode cX8_isUnder 51 = .ok (.bipush 7, 2) := by decide +kernel
theorem dX8_isUnder_53 : decode cX8_isUnder 53 = .ok (.if_icmp .ne 7, 3) := by decide +kernel
theorem dX8_isUnder_56 : decode cX8_isUnder 56 = .ok (.iconst 1, 1) := by decide +kernel
theorem dX8_isUnder_57 : decode cX8_isUnder 57 = .ok (.goto 4, 3) := by decide +kernel
theorem dX8_isUnder_60 : decode cX8_isUnder 60 = .ok (.iconst 0, 1) := by decide +kernel
theorem dX8_isUnder_61 : decode cX8_isUnder 61 = .ok (.ireturn, 1) := by decide +kernel
theorem dX8_plainGives_0 : decode cX8_plainGives 0 = .ok (.aload_n 0, 1) := by decide +kernel
theorem dX8_plainGives_1 : decode cX8_plainGives 1 = .ok (.iconst 1, 1) := by decide +kernel
theorem dX8_plainGives_2 : decode cX8_plainGives 2 = .ok (.invokevirtual 323, 3) := by decide +kernel
theorem dX8_plainGives_5 : decode cX8_plainGives 5 = .ok (.iload_n 2, 1) := by decide +kernel
theorem dX8_plainGives_6 : decode cX8_plainGives 6 = .ok (.iload_n 1, 1) := by decide +kernel
theorem dX8_plainGives_7 : decode cX8_plainGives 7 = .ok (.iadd, 1) := by decide +kernel
theorem dX8_plainGives_8 : decode cX8_plainGives 8 = .ok (.ireturn, 1) := by decide +kernel
theorem dX8_toldGives_0 : decode cX8_toldGives 0 = .ok (.aload_n 0, 1) := by decide +kernel
theorem dX8_toldGives_1 : decode cX8_toldGives 1 = .ok (.bipush 70, 2) := by decide +kernel
theorem dX8_toldGives_3 : decode cX8_toldGives 3 = .ok (.invokevirtual 323, 3) := by decide +kernel
theorem dX8_toldGives_6 : decode cX8_toldGives 6 = .ok (.aload_n 0, 1) := by decide +kernel
theorem dX8_toldGives_7 : decode cX8_toldGives 7 = .ok (.iload_n 1, 1) := by decide +kernel
theorem dX8_toldGives_8 : decode cX8_toldGives 8 = .ok (.iload_n 2, 1) := by decide +kernel
theorem dX8_toldGives_9 : decode cX8_toldGives 9 = .ok (.invokevirtual 326, 3) := by decide +kernel
theorem dX8_toldGives_12 : decode cX8_toldGives 12 = .ok (.iconst 2, 1) := by decide +kernel
theorem dX8_toldGives_13 : decode cX8_toldGives 13 = .ok (.imul, 1) := by decide +kernel
theorem dX8_toldGives_14 : decode cX8_toldGives 14 = .ok (.ireturn, 1) := by decide +kernel
theorem dX8_giving_0 : decode cX8_giving 0 = .ok (.aload_n 0, 1) := by decide +kernel
theorem dX8_giving_1 : decode cX8_giving 1 = .ok (.getfield 88, 3) := by decide +kernel
theorem dX8_giving_4 : decode cX8_giving 4 = .ok (.iload_n 1, 1) := by decide +kernel
theorem dX8_giving_5 : decode cX8_giving 5 = .ok (.iaload, 1) := by decide +kernel
theorem dX8_giving_6 : decode cX8_giving 6 = .ok (.iconst 1, 1) := by decide +kernel
theorem dX8_giving_7 : decode cX8_giving 7 = .ok (.invokestatic 329, 3) := by decide +kernel
theorem dX8_giving_10 : decode cX8_giving 10 = .ok (.ifCond .eq 18, 3) := by decide +kernel
theorem dX8_giving_13 : decode cX8_giving 13 = .ok (.aload_n 0, 1) := by decide +kernel
theorem dX8_giving_14 : decode cX8_giving 14 = .ok (.bipush 20, 2) := by decide +kernel
theorem dX8_giving_16 : decode cX8_giving 16 = .ok (.invokevirtual 323, 3) := by decide +kernel
theorem dX8_giving_19 : decode cX8_giving 19 = .ok (.aload_n 0, 1) := by decide +kernel
theorem dX8_giving_20 : decode cX8_giving 20 = .ok (.iload_n 1, 1) := by decide +kernel
theorem dX8_giving_21 : decode cX8_giving 21 = .ok (.iload_n 2, 1) := by decide +kernel
theorem dX8_giving_22 : decode cX8_giving 22 = .ok (.invokevirtual 326, 3) := by decide +kernel
theorem dX8_giving_25 : decode cX8_giving 25 = .ok (.iconst 3, 1) := by decide +kernel
theorem dX8_giving_26 : decode cX8_giving 26 = .ok (.iadd, 1) := by decide +kernel
theorem dX8_giving_27 : decode cX8_giving 27 = .ok (.ireturn, 1) := by decide +kernel
theorem dX8_giving_28 : decode cX8_giving 28 = .ok (.aload_n 0, 1) := by decide +kernel
theorem dX8_giving_29 : decode cX8_giving 29 = .ok (.getfield 88, 3) := by decide +kernel
theorem dX8_giving_32 : decode cX8_giving 32 = .ok (.iload_n 1, 1) := by decide +kernel
theorem dX8_giving_33 : decode cX8_giving 33 = .ok (.iaload, 1) := by decide +kernel
theorem dX8_giving_34 : decode cX8_giving 34 = .ok (.bipush 7, 2) := by decide +kernel
theorem dX8_giving_36 : decode cX8_giving 36 = .ok (.if_icmp .ne 18, 3) := by decide +kernel
theorem dX8_giving_39 : decode cX8_giving 39 = .ok (.aload_n 0, 1) := by decide +kernel
theorem dX8_giving_40 : decode cX8_giving 40 = .ok (.bipush 81, 2) := by decide +kernel
theorem dX8_giving_42 : decode cX8_giving 42 = .ok (.invokevirtual 323, 3) := by decide +kernel
theorem dX8_giving_45 : decode cX8_giving 45 = .ok (.aload_n 0, 1) := by decide +kernel
theorem dX8_giving_46 : decode cX8_giving 46 = .ok (.iload_n 1, 1) := by decide +kernel
theorem dX8_giving_47 : decode cX8_giving 47 = .ok (.iload_n 2, 1) := by decide +kernel
theorem dX8_giving_48 : decode cX8_giving 48 = .ok (.invokevirtual 332, 3) := by decide +kernel
theorem dX8_giving_51 : decode cX8_giving 51 = .ok (.iconst 1, 1) := by decide +kernel
theorem dX8_giving_52 : decode cX8_giving 52 = .ok (.isub, 1) := by decide +kernel
theorem dX8_giving_53 : decode cX8_giving 53 = .ok (.ireturn, 1) := by decide +kernel
theorem dX8_giving_54 : decode cX8_giving 54 = .ok (.aload_n 0, 1) := by decide +kernel
theorem dX8_giving_55 : decode cX8_giving 55 = .ok (.getfield 88, 3) := by decide +kernel
theorem dX8_giving_58 : decode cX8_giving 58 = .ok (.iload_n 1, 1) := by decide +kernel
theorem dX8_giving_59 : decode cX8_giving 59 = .ok (.iaload, 1) := by decide +kernel
theorem dX8_giving_60 : decode cX8_giving 60 = .ok (.bipush 6, 2) := by decide +kernel
theorem dX8_giving_62 : decode cX8_giving 62 = .ok (.if_icmp .ne 12, 3) := by decide +kernel
theorem dX8_giving_65 : decode cX8_giving 65 = .ok (.aload_n 0, 1) := by decide +kernel
theorem dX8_giving_66 : decode cX8_giving 66 = .ok (.iload_n 1, 1) := by decide +kernel
theorem dX8_giving_67 : decode cX8_giving 67 = .ok (.iload_n 2, 1) := by decide +kernel
theorem dX8_giving_68 : decode cX8_giving 68 = .ok (.invokevirtual 332, 3) := by decide +kernel
theorem dX8_giving_71 : decode cX8_giving 71 = .ok (.goto 9, 3) := by decide +kernel
theorem dX8_giving_74 : decode cX8_giving 74 = .ok (.aload_n 0, 1) := by decide +kernel
theorem dX8_giving_75 : decode cX8_giving 75 = .ok (.iload_n 1, 1) := by decide +kernel
theorem dX8_giving_76 : decode cX8_giving 76 = .ok (.iload_n 2, 1) := by decide +kernel
theorem dX8_giving_77 : decode cX8_giving 77 = .ok (.invokevirtual 326, 3) := by decide +kernel
theorem dX8_giving_80 : decode cX8_giving 80 = .ok (.ireturn, 1) := by decide +kernel
theorem dX8_plainHolds_0 : decode cX8_plainHolds 0 = .ok (.aload_n 0, 1) := by decide +kernel
theorem dX8_plainHolds_1 : decode cX8_plainHolds 1 = .ok (.bipush 10, 2) := by decide +kernel
theorem dX8_plainHolds_3 : decode cX8_plainHolds 3 = .ok (.invokevirtual 323, 3) := by decide +kernel
theorem dX8_plainHolds_6 : decode cX8_plainHolds 6 = .ok (.aload_n 0, 1) := by decide +kernel
theorem dX8_plainHolds_7 : decode cX8_plainHolds 7 = .ok (.iload_n 1, 1) := by decide +kernel
theorem dX8_plainHolds_8 : decode cX8_plainHolds 8 = .ok (.iload_n 2, 1) := by decide +kernel
theorem dX8_plainHolds_9 : decode cX8_plainHolds 9 = .ok (.invokevirtual 335, 3) := by decide +kernel
theorem dX8_plainHolds_12 : decode cX8_plainHolds 12 = .ok (.iconst 2, 1) := by decide +kernel
theorem dX8_plainHolds_13 : decode cX8_plainHolds 13 = .ok (.imul, 1) := by decide +kernel
theorem dX8_plainHolds_14 : decode cX8_plainHolds 14 = .ok (.ireturn, 1) := by decide +kernel
theorem dX8_soonHolds_0 : decode cX8_soonHolds 0 = .ok (.aload_n 0, 1) := by decide +kernel
theorem dX8_soonHolds_1 : decode cX8_soonHolds 1 = .ok (.bipush 30, 2) := by decide +kernel
theorem dX8_soonHolds_3 : decode cX8_soonHolds 3 = .ok (.invokevirtual 323, 3) := by decide +kernel
theorem dX8_soonHolds_6 : decode cX8_soonHolds 6 = .ok (.aload_n 0, 1) := by decide +kernel
theorem dX8_soonHolds_7 : decode cX8_soonHolds 7 = .ok (.iload_n 1, 1) := by decide +kernel
theorem dX8_soonHolds_8 : decode cX8_soonHolds 8 = .ok (.iload_n 2, 1) := by decide +kernel
theorem dX8_soonHolds_9 : decode cX8_soonHolds 9 = .ok (.invokevirtual 338, 3) := by decide +kernel
theorem dX8_soonHolds_12 : decode cX8_soonHolds 12 = .ok (.ineg, 1) := by decide +kernel
theorem dX8_soonHolds_13 : decode cX8_soonHolds 13 = .ok (.ireturn, 1) := by decide +kernel
theorem dX8_holding_0 : decode cX8_holding 0 = .ok (.aload_n 0, 1) := by decide +kernel
theorem dX8_holding_1 : decode cX8_holding 1 = .ok (.getfield 88, 3) := by decide +kernel
theorem dX8_holding_4 : decode cX8_holding 4 = .ok (.iload_n 1, 1) := by decide +kernel
theorem dX8_holding_5 : decode cX8_holding 5 = .ok (.iaload, 1) := by decide +kernel
theorem dX8_holding_6 : decode cX8_holding 6 = .ok (.iconst 3, 1) := by decide +kernel
theorem dX8_holding_7 : decode cX8_holding 7 = .ok (.invokestatic 329, 3) := by decide +kernel
theorem dX8_holding_10 : decode cX8_holding 10 = .ok (.ifCond .eq 18, 3) := by decide +kernel
theorem dX8_holding_13 : decode cX8_holding 13 = .ok (.aload_n 0, 1) := by decide +kernel
theorem dX8_holding_14 : decode cX8_holding 14 = .ok (.bipush 41, 2) := by decide +kernel
theorem dX8_holding_16 : decode cX8_holding 16 = .ok (.invokevirtual 323, 3) := by decide +kernel
theorem dX8_holding_19 : decode cX8_holding 19 = .ok (.aload_n 0, 1) := by decide +kernel
theorem dX8_holding_20 : decode cX8_holding 20 = .ok (.iload_n 1, 1) := by decide +kernel
theorem dX8_holding_21 : decode cX8_holding 21 = .ok (.iload_n 2, 1) := by decide +kernel
theorem dX8_holding_22 : decode cX8_holding 22 = .ok (.iconst 1, 1) := by decide +kernel
theorem dX8_holding_23 : decode cX8_holding 23 = .ok (.iadd, 1) := by decide +kernel
theorem dX8_holding_24 : decode cX8_holding 24 = .ok (.invokevirtual 341, 3) := by decide +kernel
theorem dX8_holding_27 : decode cX8_holding 27 = .ok (.ireturn, 1) := by decide +kernel
theorem dX8_holding_28 : decode cX8_holding 28 = .ok (.aload_n 0, 1) := by decide +kernel
theorem dX8_holding_29 : decode cX8_holding 29 = .ok (.getfield 88, 3) := by decide +kernel
theorem dX8_holding_32 : decode cX8_holding 32 = .ok (.iload_n 1, 1) := by decide +kernel
theorem dX8_holding_33 : decode cX8_holding 33 = .ok (.iaload, 1) := by decide +kernel
theorem dX8_holding_34 : decode cX8_holding 34 = .ok (.bipush 7, 2) := by decide +kernel
theorem dX8_holding_36 : decode cX8_holding 36 = .ok (.if_icmp .ne 25, 3) := by decide +kernel
theorem dX8_holding_39 : decode cX8_holding 39 = .ok (.aload_n 0, 1) := by decide +kernel
theorem dX8_holding_40 : decode cX8_holding 40 = .ok (.bipush 80, 2) := by decide +kernel
theorem dX8_holding_42 : decode cX8_holding 42 = .ok (.invokevirtual 323, 3) := by decide +kernel
theorem dX8_holding_45 : decode cX8_holding 45 = .ok (.aload_n 0, 1) := by decide +kernel
theorem dX8_holding_46 : decode cX8_holding 46 = .ok (.iload_n 1, 1) := by decide +kernel
theorem dX8_holding_47 : decode cX8_holding 47 = .ok (.iload_n 2, 1) := by decide +kernel
theorem dX8_holding_48 : decode cX8_holding 48 = .ok (.invokevirtual 338, 3) := by decide +kernel
theorem dX8_holding_51 : decode cX8_holding 51 = .ok (.istore_n 3, 1) := by decide +kernel
theorem dX8_holding_52 : decode cX8_holding 52 = .ok (.iload_n 3, 1) := by decide +kernel
theorem dX8_holding_53 : decode cX8_holding 53 = .ok (.aload_n 0, 1) := by decide +kernel
theorem dX8_holding_54 : decode cX8_holding 54 = .ok (.iload_n 1, 1) := by decide +kernel
theorem dX8_holding_55 : decode cX8_holding 55 = .ok (.iconst 2, 1) := by decide +kernel
theorem dX8_holding_56 : decode cX8_holding 56 = .ok (.invokevirtual 344, 3) := by decide +kernel
theorem dX8_holding_59 : decode cX8_holding 59 = .ok (.iadd, 1) := by decide +kernel
theorem dX8_holding_60 : decode cX8_holding 60 = .ok (.ireturn, 1) := by decide +kernel
theorem dX8_holding_61 : decode cX8_holding 61 = .ok (.aload_n 0, 1) := by decide +kernel
theorem dX8_holding_62 : decode cX8_holding 62 = .ok (.getfield 88, 3) := by decide +kernel
theorem dX8_holding_65 : decode cX8_holding 65 = .ok (.iload_n 1, 1) := by decide +kernel
theorem dX8_holding_66 : decode cX8_holding 66 = .ok (.iaload, 1) := by decide +kernel
theorem dX8_holding_67 : decode cX8_holding 67 = .ok (.iconst 2, 1) := by decide +kernel
theorem dX8_holding_68 : decode cX8_holding 68 = .ok (.if_icmp .ne 12, 3) := by decide +kernel
theorem dX8_holding_71 : decode cX8_holding 71 = .ok (.aload_n 0, 1) := by decide +kernel
theorem dX8_holding_72 : decode cX8_holding 72 = .ok (.iload_n 1, 1) := by decide +kernel
theorem dX8_holding_73 : decode cX8_holding 73 = .ok (.iload_n 2, 1) := by decide +kernel
theorem dX8_holding_74 : decode cX8_holding 74 = .ok (.invokevirtual 341, 3) := by decide +kernel
theorem dX8_holding_77 : decode cX8_holding 77 = .ok (.goto 9, 3) := by decide +kernel
theorem dX8_holding_80 : decode cX8_holding 80 = .ok (.aload_n 0, 1) := by decide +kernel
theorem dX8_holding_81 : decode cX8_holding 81 = .ok (.iload_n 1, 1) := by decide +kernel
theorem dX8_holding_82 : decode cX8_holding 82 = .ok (.iload_n 2, 1) := by decide +kernel
theorem dX8_holding_83 : decode cX8_holding 83 = .ok (.invokevirtual 338, 3) := by decide +kernel
theorem dX8_holding_86 : decode cX8_holding 86 = .ok (.ireturn, 1) := by decide +kernel
theorem dX8_plainKnows_0 : decode cX8_plainKnows 0 = .ok (.aload_n 0, 1) := by decide +kernel
theorem dX8_plainKnows_1 : decode cX8_plainKnows 1 = .ok (.bipush 11, 2) := by decide +kernel
theorem dX8_plainKnows_3 : decode cX8_plainKnows 3 = .ok (.invokevirtual 323, 3) := by decide +kernel
theorem dX8_plainKnows_6 : decode cX8_plainKnows 6 = .ok (.iload_n 2, 1) := by decide +kernel
theorem dX8_plainKnows_7 : decode cX8_plainKnows 7 = .ok (.iload_n 1, 1) := by decide +kernel
theorem dX8_plainKnows_8 : decode cX8_plainKnows 8 = .ok (.ixor, 1) := by decide +kernel
theorem dX8_plainKnows_9 : decode cX8_plainKnows 9 = .ok (.ireturn, 1) := by decide +kernel
theorem dX8_wishKnows_0 : decode cX8_wishKnows 0 = .ok (.aload_n 0, 1) := by decide +kernel
theorem dX8_wishKnows_1 : decode cX8_wishKnows 1 = .ok (.bipush 40, 2) := by decide +kernel
theorem dX8_wishKnows_3 : decode cX8_wishKnows 3 = .ok (.invokevirtual 323, 3) := by decide +kernel
theorem dX8_wishKnows_6 : decode cX8_wishKnows 6 = .ok (.aload_n 0, 1) := by decide +kernel
theorem dX8_wishKnows_7 : decode cX8_wishKnows 7 = .ok (.iload_n 1, 1) := by decide +kernel
theorem dX8_wishKnows_8 : decode cX8_wishKnows 8 = .ok (.iload_n 2, 1) := by decide +kernel
theorem dX8_wishKnows_9 : decode cX8_wishKnows 9 = .ok (.invokevirtual 347, 3) := by decide +kernel
theorem dX8_wishKnows_12 : decode cX8_wishKnows 12 = .ok (.iconst 3, 1) := by decide +kernel
theorem dX8_wishKnows_13 : decode cX8_wishKnows 13 = .ok (.imul, 1) := by decide +kernel
theorem dX8_wishKnows_14 : decode cX8_wishKnows 14 = .ok (.ireturn, 1) := by decide +kernel
theorem dX8_knowing_0 : decode cX8_knowing 0 = .ok (.aload_n 0, 1) := by decide +kernel
theorem dX8_knowing_1 : decode cX8_knowing 1 = .ok (.getfield 88, 3) := by decide +kernel
theorem dX8_knowing_4 : decode cX8_knowing 4 = .ok (.iload_n 1, 1) := by decide +kernel
theorem dX8_knowing_5 : decode cX8_knowing 5 = .ok (.iaload, 1) := by decide +kernel
theorem dX8_knowing_6 : decode cX8_knowing 6 = .ok (.iconst 5, 1) := by decide +kernel
theorem dX8_knowing_7 : decode cX8_knowing 7 = .ok (.if_icmp .ne 25, 3) := by decide +kernel
theorem dX8_knowing_10 : decode cX8_knowing 10 = .ok (.aload_n 0, 1) := by decide +kernel
theorem dX8_knowing_11 : decode cX8_knowing 11 = .ok (.bipush 60, 2) := by decide +kernel
theorem dX8_knowing_13 : decode cX8_knowing 13 = .ok (.invokevirtual 323, 3) := by decide +kernel
theorem dX8_knowing_16 : decode cX8_knowing 16 = .ok (.aload_n 0, 1) := by decide +kernel
theorem dX8_knowing_17 : decode cX8_knowing 17 = .ok (.iload_n 1, 1) := by decide +kernel
theorem dX8_knowing_18 : decode cX8_knowing 18 = .ok (.iload_n 2, 1) := by decide +kernel
theorem dX8_knowing_19 : decode cX8_knowing 19 = .ok (.invokevirtual 350, 3) := by decide +kernel
theorem dX8_knowing_22 : decode cX8_knowing 22 = .ok (.istore_n 3, 1) := by decide +kernel
theorem dX8_knowing_23 : decode cX8_knowing 23 = .ok (.iload_n 3, 1) := by decide +kernel
theorem dX8_knowing_24 : decode cX8_knowing 24 = .ok (.aload_n 0, 1) := by decide +kernel
theorem dX8_knowing_25 : decode cX8_knowing 25 = .ok (.iload_n 1, 1) := by decide +kernel
theorem dX8_knowing_26 : decode cX8_knowing 26 = .ok (.iconst 2, 1) := by decide +kernel
theorem dX8_knowing_27 : decode cX8_knowing 27 = .ok (.invokevirtual 335, 3) := by decide +kernel
theorem dX8_knowing_30 : decode cX8_knowing 30 = .ok (.isub, 1) := by decide +kernel
theorem dX8_knowing_31 : decode cX8_knowing 31 = .ok (.ireturn, 1) := by decide +kernel
theorem dX8_knowing_32 : decode cX8_knowing 32 = .ok (.aload_n 0, 1) := by decide +kernel
theorem dX8_knowing_33 : decode cX8_knowing 33 = .ok (.getfield 88, 3) := by decide +kernel
theorem dX8_knowing_36 : decode cX8_knowing 36 = .ok (.iload_n 1, 1) := by decide +kernel
theorem dX8_knowing_37 : decode cX8_knowing 37 = .ok (.iaload, 1) := by decide +kernel
theorem dX8_knowing_38 : decode cX8_knowing 38 = .ok (.iconst 3, 1) := by decide +kernel
theorem dX8_knowing_39 : decode cX8_knowing 39 = .ok (.if_icmp .ne 12, 3) := by decide +kernel
theorem dX8_knowing_42 : decode cX8_knowing 42 = .ok (.aload_n 0, 1) := by decide +kernel
theorem dX8_knowing_43 : decode cX8_knowing 43 = .ok (.iload_n 1, 1) := by decide +kernel
theorem dX8_knowing_44 : decode cX8_knowing 44 = .ok (.iload_n 2, 1) := by decide +kernel
theorem dX8_knowing_45 : decode cX8_knowing 45 = .ok (.invokevirtual 350, 3) := by decide +kernel
theorem dX8_knowing_48 : decode cX8_knowing 48 = .ok (.goto 9, 3) := by decide +kernel
theorem dX8_knowing_51 : decode cX8_knowing 51 = .ok (.aload_n 0, 1) := by decide +kernel
theorem dX8_knowing_52 : decode cX8_knowing 52 = .ok (.iload_n 1, 1) := by decide +kernel
theorem dX8_knowing_53 : decode cX8_knowing 53 = .ok (.iload_n 2, 1) := by decide +kernel
theorem dX8_knowing_54 : decode cX8_knowing 54 = .ok (.invokevirtual 347, 3) := by decide +kernel
theorem dX8_knowing_57 : decode cX8_knowing 57 = .ok (.ireturn, 1) := by decide +kernel
theorem dX8_plainTells_0 : decode cX8_plainTells 0 = .ok (.aload_n 0, 1) := by decide +kernel
theorem dX8_plainTells_1 : decode cX8_plainTells 1 = .ok (.iconst 2, 1) := by decide +kernel
theorem dX8_plainTells_2 : decode cX8_plainTells 2 = .ok (.invokevirtual 323, 3) := by decide +kernel
theorem dX8_plainTells_5 : decode cX8_plainTells 5 = .ok (.aload_n 0, 1) := by decide +kernel
theorem dX8_plainTells_6 : decode cX8_plainTells 6 = .ok (.iload_n 1, 1) := by decide +kernel
theorem dX8_plainTells_7 : decode cX8_plainTells 7 = .ok (.iload_n 2, 1) := by decide +kernel
theorem dX8_plainTells_8 : decode cX8_plainTells 8 = .ok (.invokevirtual 353, 3) := by decide +kernel
theorem dX8_plainTells_11 : decode cX8_plainTells 11 = .ok (.istore_n 3, 1) := by decide +kernel
theorem dX8_plainTells_12 : decode cX8_plainTells 12 = .ok (.iload_n 3, 1) := by decide +kernel
theorem dX8_plainTells_13 : decode cX8_plainTells 13 = .ok (.aload_n 0, 1) := by decide +kernel
theorem dX8_plainTells_14 : decode cX8_plainTells 14 = .ok (.iload_n 1, 1) := by decide +kernel
theorem dX8_plainTells_15 : decode cX8_plainTells 15 = .ok (.iconst 1, 1) := by decide +kernel
theorem dX8_plainTells_16 : decode cX8_plainTells 16 = .ok (.invokevirtual 344, 3) := by decide +kernel
theorem dX8_plainTells_19 : decode cX8_plainTells 19 = .ok (.isub, 1) := by decide +kernel
theorem dX8_plainTells_20 : decode cX8_plainTells 20 = .ok (.ireturn, 1) := by decide +kernel
theorem dX8_telling_0 : decode cX8_telling 0 = .ok (.aload_n 0, 1) := by decide +kernel
theorem dX8_telling_1 : decode cX8_telling 1 = .ok (.getfield 88, 3) := by decide +kernel
theorem dX8_telling_4 : decode cX8_telling 4 = .ok (.iload_n 1, 1) := by decide +kernel
theorem dX8_telling_5 : decode cX8_telling 5 = .ok (.iaload, 1) := by decide +kernel
theorem dX8_telling_6 : decode cX8_telling 6 = .ok (.iconst 4, 1) := by decide +kernel
theorem dX8_telling_7 : decode cX8_telling 7 = .ok (.if_icmp .ne 18, 3) := by decide +kernel
theorem dX8_telling_10 : decode cX8_telling 10 = .ok (.aload_n 0, 1) := by decide +kernel
theorem dX8_telling_11 : decode cX8_telling 11 = .ok (.bipush 50, 2) := by decide +kernel
theorem dX8_telling_13 : decode cX8_telling 13 = .ok (.invokevirtual 323, 3) := by decide +kernel
theorem dX8_telling_16 : decode cX8_telling 16 = .ok (.aload_n 0, 1) := by decide +kernel
theorem dX8_telling_17 : decode cX8_telling 17 = .ok (.iload_n 1, 1) := by decide +kernel
theorem dX8_telling_18 : decode cX8_telling 18 = .ok (.iload_n 2, 1) := by decide +kernel
theorem dX8_telling_19 : decode cX8_telling 19 = .ok (.invokevirtual 356, 3) := by decide +kernel
theorem dX8_telling_22 : decode cX8_telling 22 = .ok (.iconst 5, 1) := by decide +kernel
theorem dX8_telling_23 : decode cX8_telling 23 = .ok (.ixor, 1) := by decide +kernel
theorem dX8_telling_24 : decode cX8_telling 24 = .ok (.ireturn, 1) := by decide +kernel
theorem dX8_telling_25 : decode cX8_telling 25 = .ok (.aload_n 0, 1) := by decide +kernel
theorem dX8_telling_26 : decode cX8_telling 26 = .ok (.getfield 88, 3) := by decide +kernel
theorem dX8_telling_29 : decode cX8_telling 29 = .ok (.iload_n 1, 1) := by decide +kernel
theorem dX8_telling_30 : decode cX8_telling 30 = .ok (.iaload, 1) := by decide +kernel
theorem dX8_telling_31 : decode cX8_telling 31 = .ok (.iconst 5, 1) := by decide +kernel
theorem dX8_telling_32 : decode cX8_telling 32 = .ok (.if_icmp .ne 18, 3) := by decide +kernel
theorem dX8_telling_35 : decode cX8_telling 35 = .ok (.aload_n 0, 1) := by decide +kernel
theorem dX8_telling_36 : decode cX8_telling 36 = .ok (.bipush 61, 2) := by decide +kernel
theorem dX8_telling_38 : decode cX8_telling 38 = .ok (.invokevirtual 323, 3) := by decide +kernel
theorem dX8_telling_41 : decode cX8_telling 41 = .ok (.aload_n 0, 1) := by decide +kernel
theorem dX8_telling_42 : decode cX8_telling 42 = .ok (.iload_n 1, 1) := by decide +kernel
theorem dX8_telling_43 : decode cX8_telling 43 = .ok (.iload_n 2, 1) := by decide +kernel
theorem dX8_telling_44 : decode cX8_telling 44 = .ok (.invokevirtual 356, 3) := by decide +kernel
theorem dX8_telling_47 : decode cX8_telling 47 = .ok (.iconst 1, 1) := by decide +kernel
theorem dX8_telling_48 : decode cX8_telling 48 = .ok (.iadd, 1) := by decide +kernel
theorem dX8_telling_49 : decode cX8_telling 49 = .ok (.ireturn, 1) := by decide +kernel
theorem dX8_telling_50 : decode cX8_telling 50 = .ok (.aload_n 0, 1) := by decide +kernel
theorem dX8_telling_51 : decode cX8_telling 51 = .ok (.iload_n 1, 1) := by decide +kernel
theorem dX8_telling_52 : decode cX8_telling 52 = .ok (.iload_n 2, 1) := by decide +kernel
theorem dX8_telling_53 : decode cX8_telling 53 = .ok (.invokevirtual 356, 3) := by decide +kernel
theorem dX8_telling_56 : decode cX8_telling 56 = .ok (.ireturn, 1) := by decide +kernel
theorem dX8_act_0 : decode cX8_act 0 = .ok (.aload_n 0, 1) := by decide +kernel
theorem dX8_act_1 : decode cX8_act 1 = .ok (.iconst 0, 1) := by decide +kernel
theorem dX8_act_2 : decode cX8_act 2 = .ok (.putfield 320, 3) := by decide +kernel
theorem dX8_act_5 : decode cX8_act 5 = .ok (.aload_n 0, 1) := by decide +kernel
theorem dX8_act_6 : decode cX8_act 6 = .ok (.iload_n 1, 1) := by decide +kernel
theorem dX8_act_7 : decode cX8_act 7 = .ok (.invokevirtual 359, 3) := by decide +kernel
theorem dX8_act_10 : decode cX8_act 10 = .ok (.ifCond .eq 12, 3) := by decide +kernel
theorem dX8_act_13 : decode cX8_act 13 = .ok (.iload_n 2, 1) := by decide +kernel
theorem dX8_act_14 : decode cX8_act 14 = .ok (.iconst 0, 1) := by decide +kernel
theorem dX8_act_15 : decode cX8_act 15 = .ok (.iconst 3, 1) := by decide +kernel
theorem dX8_act_16 : decode cX8_act 16 = .ok (.invokestatic 114, 3) := by decide +kernel
theorem dX8_act_19 : decode cX8_act 19 = .ok (.ifCond .ne 5, 3) := by decide +kernel
theorem dX8_act_22 : decode cX8_act 22 = .ok (.iconst 0, 1) := by decide +kernel
theorem dX8_act_23 : decode cX8_act 23 = .ok (.ireturn, 1) := by decide +kernel
theorem dX8_act_24 : decode cX8_act 24 = .ok (.iload_n 2, 1) := by decide +kernel
theorem dX8_act_25 : decode cX8_act 25 = .ok (.ifCond .ne 12, 3) := by decide +kernel
theorem dX8_act_28 : decode cX8_act 28 = .ok (.aload_n 0, 1) := by decide +kernel
theorem dX8_act_29 : decode cX8_act 29 = .ok (.iload_n 1, 1) := by decide +kernel
theorem dX8_act_30 : decode cX8_act 30 = .ok (.iload_n 3, 1) := by decide +kernel
theorem dX8_act_31 : decode cX8_act 31 = .ok (.invokevirtual 335, 3) := by decide +kernel
theorem dX8_act_34 : decode cX8_act 34 = .ok (.goto 37, 3) := by decide +kernel
theorem dX8_act_37 : decode cX8_act 37 = .ok (.iload_n 2, 1) := by decide +kernel
theorem dX8_act_38 : decode cX8_act 38 = .ok (.iconst 1, 1) := by decide +kernel
theorem dX8_act_39 : decode cX8_act 39 = .ok (.if_icmp .ne 12, 3) := by decide +kernel
theorem dX8_act_42 : decode cX8_act 42 = .ok (.aload_n 0, 1) := by decide +kernel
theorem dX8_act_43 : decode cX8_act 43 = .ok (.iload_n 1, 1) := by decide +kernel
theorem dX8_act_44 : decode cX8_act 44 = .ok (.iload_n 3, 1) := by decide +kernel
theorem dX8_act_45 : decode cX8_act 45 = .ok (.invokevirtual 353, 3) := by decide +kernel
theorem dX8_act_48 : decode cX8_act 48 = .ok (.goto 23, 3) := by decide +kernel
theorem dX8_act_51 : decode cX8_act 51 = .ok (.iload_n 2, 1) := by decide +kernel
theorem dX8_act_52 : decode cX8_act 52 = .ok (.iconst 2, 1) := by decide +kernel
theorem dX8_act_53 : decode cX8_act 53 = .ok (.if_icmp .ne 12, 3) := by decide +kernel
theorem dX8_act_56 : decode cX8_act 56 = .ok (.aload_n 0, 1) := by decide +kernel
theorem dX8_act_57 : decode cX8_act 57 = .ok (.iload_n 1, 1) := by decide +kernel
theorem dX8_act_58 : decode cX8_act 58 = .ok (.iload_n 3, 1) := by decide +kernel
theorem dX8_act_59 : decode cX8_act 59 = .ok (.invokevirtual 344, 3) := by decide +kernel
theorem dX8_act_62 : decode cX8_act 62 = .ok (.goto 9, 3) := by decide +kernel
theorem dX8_act_65 : decode cX8_act 65 = .ok (.aload_n 0, 1) := by decide +kernel
theorem dX8_act_66 : decode cX8_act 66 = .ok (.iload_n 1, 1) := by decide +kernel
theorem dX8_act_67 : decode cX8_act 67 = .ok (.iload_n 3, 1) := by decide +kernel
theorem dX8_act_68 : decode cX8_act 68 = .ok (.invokevirtual 362, 3) := by decide +kernel
theorem dX8_act_71 : decode cX8_act 71 = .ok (.ireturn, 1) := by decide +kernel
theorem dX8_namedMany_0 : decode cX8_namedMany 0 = .ok (.iconst 0, 1) := by decide +kernel
theorem dX8_namedMany_1 : decode cX8_namedMany 1 = .ok (.istore_n 1, 1) := by decide +kernel
theorem dX8_namedMany_2 : decode cX8_namedMany 2 = .ok (.iconst 0, 1) := by decide +kernel
theorem dX8_namedMany_3 : decode cX8_namedMany 3 = .ok (.istore_n 2, 1) := by decide +kernel
theorem dX8_namedMany_4 : decode cX8_namedMany 4 = .ok (.iload_n 2, 1) := by decide +kernel
theorem dX8_namedMany_5 : decode cX8_namedMany 5 = .ok (.aload_n 0, 1) := by decide +kernel
theorem dX8_namedMany_6 : decode cX8_namedMany 6 = .ok (.getfield 111, 3) := by decide +kernel
theorem dX8_namedMany_9 : decode cX8_namedMany 9 = .ok (.if_icmp .ge 21, 3) := by decide +kernel
theorem dX8_namedMany_12 : decode cX8_namedMany 12 = .ok (.aload_n 0, 1) := by decide +kernel
theorem dX8_namedMany_13 : decode cX8_namedMany 13 = .ok (.getfield 16, 3) := by decide +kernel
theorem dX8_namedMany_16 : decode cX8_namedMany 16 = .ok (.iload_n 2, 1) := by decide +kernel
theorem dX8_namedMany_17 : decode cX8_namedMany 17 = .ok (.iaload, 1) := by decide +kernel
theorem dX8_namedMany_18 : decode cX8_namedMany 18 = .ok (.ifCond .lt 6, 3) := by decide +kernel
theorem dX8_namedMany_21 : decode cX8_namedMany 21 = .ok (.iinc 1 1, 3) := by decide +kernel
theorem dX8_namedMany_24 : decode cX8_namedMany 24 = .ok (.iinc 2 1, 3) := by decide +kernel
theorem dX8_namedMany_27 : decode cX8_namedMany 27 = .ok (.goto (-23), 3) := by decide +kernel
theorem dX8_namedMany_30 : decode cX8_namedMany 30 = .ok (.iload_n 1, 1) := by decide +kernel
theorem dX8_namedMany_31 : decode cX8_namedMany 31 = .ok (.ireturn, 1) := by decide +kernel
theorem dX8_count_0 : decode cX8_count 0 = .ok (.iload_n 1, 1) := by decide +kernel
theorem dX8_count_1 : decode cX8_count 1 = .ok (.tableswitch 78 0 6 #[43, 48, 53, 58, 63, 68, 73], 43) := by decide +kernel
theorem dX8_count_44 : decode cX8_count 44 = .ok (.aload_n 0, 1) := by decide +kernel
theorem dX8_count_45 : decode cX8_count 45 = .ok (.getfield 111, 3) := by decide +kernel
theorem dX8_count_48 : decode cX8_count 48 = .ok (.ireturn, 1) := by decide +kernel
theorem dX8_count_49 : decode cX8_count 49 = .ok (.aload_n 0, 1) := by decide +kernel
theorem dX8_count_50 : decode cX8_count 50 = .ok (.getfield 141, 3) := by decide +kernel
theorem dX8_count_53 : decode cX8_count 53 = .ok (.ireturn, 1) := by decide +kernel
theorem dX8_count_54 : decode cX8_count 54 = .ok (.aload_n 0, 1) := by decide +kernel
theorem dX8_count_55 : decode cX8_count 55 = .ok (.invokevirtual 365, 3) := by decide +kernel
theorem dX8_count_58 : decode cX8_count 58 = .ok (.ireturn, 1) := by decide +kernel
theorem dX8_count_59 : decode cX8_count 59 = .ok (.aload_n 0, 1) := by decide +kernel
theorem dX8_count_60 : decode cX8_count 60 = .ok (.getfield 181, 3) := by decide +kernel
theorem dX8_count_63 : decode cX8_count 63 = .ok (.ireturn, 1) := by decide +kernel
theorem dX8_count_64 : decode cX8_count 64 = .ok (.aload_n 0, 1) := by decide +kernel
theorem dX8_count_65 : decode cX8_count 65 = .ok (.getfield 158, 3) := by decide +kernel
theorem dX8_count_68 : decode cX8_count 68 = .ok (.ireturn, 1) := by decide +kernel
theorem dX8_count_69 : decode cX8_count 69 = .ok (.aload_n 0, 1) := by decide +kernel
theorem dX8_count_70 : decode cX8_count 70 = .ok (.getfield 317, 3) := by decide +kernel
theorem dX8_count_73 : decode cX8_count 73 = .ok (.ireturn, 1) := by decide +kernel
theorem dX8_count_74 : decode cX8_count 74 = .ok (.aload_n 0, 1) := by decide +kernel
theorem dX8_count_75 : decode cX8_count 75 = .ok (.getfield 320, 3) := by decide +kernel
theorem dX8_count_78 : decode cX8_count 78 = .ok (.ireturn, 1) := by decide +kernel
theorem dX8_count_79 : decode cX8_count 79 = .ok (.iconst (-1), 1) := by decide +kernel
theorem dX8_count_80 : decode cX8_count 80 = .ok (.ireturn, 1) := by decide +kernel
theorem dX8_isShelf_0 : decode cX8_isShelf 0 = .ok (.iload_n 0, 1) := by decide +kernel
theorem dX8_isShelf_1 : decode cX8_isShelf 1 = .ok (.iconst 0, 1) := by decide +kernel
theorem dX8_isShelf_2 : decode cX8_isShelf 2 = .ok (.iconst 5, 1) := by decide +kernel
theorem dX8_isShelf_3 : decode cX8_isShelf 3 = .ok (.invokestatic 114, 3) := by decide +kernel
theorem dX8_isShelf_6 : decode cX8_isShelf 6 = .ok (.ireturn, 1) := by decide +kernel
theorem dX8_keep_0 : decode cX8_keep 0 = .ok (.iload_n 1, 1) := by decide +kernel
theorem dX8_keep_1 : decode cX8_keep 1 = .ok (.invokestatic 130, 3) := by decide +kernel
theorem dX8_keep_4 : decode cX8_keep 4 = .ok (.ifCond .eq 16, 3) := by decide +kernel
theorem dX8_keep_7 : decode cX8_keep 7 = .ok (.iload_n 2, 1) := by decide +kernel
theorem dX8_keep_8 : decode cX8_keep 8 = .ok (.iconst (-1), 1) := by decide +kernel
theorem dX8_keep_9 : decode cX8_keep 9 = .ok (.if_icmp .eq 13, 3) := by decide +kernel
theorem dX8_keep_12 : decode cX8_keep 12 = .ok (.aload_n 0, 1) := by decide +kernel
theorem dX8_keep_13 : decode cX8_keep 13 = .ok (.iload_n 2, 1) := by decide +kernel
theorem dX8_keep_14 : decode cX8_keep 14 = .ok (.invokevirtual 359, 3) := by decide +kernel
theorem dX8_keep_17 : decode cX8_keep 17 = .ok (.ifCond .ne 5, 3) := by decide +kernel
theorem dX8_keep_20 : decode cX8_keep 20 = .ok (.iconst (-1), 1) := by decide +kernel
theorem dX8_keep_21 : decode cX8_keep 21 = .ok (.ireturn, 1) := by decide +kernel
theorem dX8_keep_22 : decode cX8_keep 22 = .ok (.aload_n 0, 1) := by decide +kernel
theorem dX8_keep_23 : decode cX8_keep 23 = .ok (.getfield 94, 3) := by decide +kernel
theorem dX8_keep_26 : decode cX8_keep 26 = .ok (.iload_n 1, 1) := by decide +kernel
theorem dX8_keep_27 : decode cX8_keep 27 = .ok (.iload_n 2, 1) := by decide +kernel
theorem dX8_keep_28 : decode cX8_keep 28 = .ok (.iastore, 1) := by decide +kernel
theorem dX8_keep_29 : decode cX8_keep 29 = .ok (.iconst 1, 1) := by decide +kernel
theorem dX8_keep_30 : decode cX8_keep 30 = .ok (.ireturn, 1) := by decide +kernel
theorem dX8_row_0 : decode cX8_row 0 = .ok (.iload_n 1, 1) := by decide +kernel
theorem dX8_row_1 : decode cX8_row 1 = .ok (.invokestatic 130, 3) := by decide +kernel
theorem dX8_row_4 : decode cX8_row 4 = .ok (.ifCond .eq 18, 3) := by decide +kernel
theorem dX8_row_7 : decode cX8_row 7 = .ok (.iload_n 2, 1) := by decide +kernel
theorem dX8_row_8 : decode cX8_row 8 = .ok (.iconst 0, 1) := by decide +kernel
theorem dX8_row_9 : decode cX8_row 9 = .ok (.iconst 4, 1) := by decide +kernel
theorem dX8_row_10 : decode cX8_row 10 = .ok (.invokestatic 114, 3) := by decide +kernel
theorem dX8_row_13 : decode cX8_row 13 = .ok (.ifCond .eq 9, 3) := by decide +kernel
theorem dX8_row_16 : decode cX8_row 16 = .ok (.iload_n 3, 1) := by decide +kernel
theorem dX8_row_17 : decode cX8_row 17 = .ok (.bipush 60, 2) := by decide +kernel
theorem dX8_row_19 : decode cX8_row 19 = .ok (.if_icmp .le 5, 3) := by decide +kernel
theorem dX8_row_22 : decode cX8_row 22 = .ok (.iconst (-1), 1) := by decide +kernel
theorem dX8_row_23 : decode cX8_row 23 = .ok (.ireturn, 1) := by decide +kernel
theorem dX8_row_24 : decode cX8_row 24 = .ok (.iload_n 3, 1) := by decide +kernel
theorem dX8_row_25 : decode cX8_row 25 = .ok (.ifCond .ge 6, 3) := by decide +kernel
theorem dX8_row_28 : decode cX8_row 28 = .ok (.bipush (-14), 2) := by decide +kernel
theorem dX8_row_30 : decode cX8_row 30 = .ok (.ireturn, 1) := by decide +kernel
theorem dX8_row_31 : decode cX8_row 31 = .ok (.aload_n 0, 1) := by decide +kernel
theorem dX8_row_32 : decode cX8_row 32 = .ok (.getfield 94, 3) := by decide +kernel
theorem dX8_row_35 : decode cX8_row 35 = .ok (.iload_n 1, 1) := by decide +kernel
theorem dX8_row_36 : decode cX8_row 36 = .ok (.bipush (-2), 2) := by decide +kernel
theorem dX8_row_38 : decode cX8_row 38 = .ok (.iload_n 2, 1) := by decide +kernel
theorem dX8_row_39 : decode cX8_row 39 = .ok (.isub, 1) := by decide +kernel
theorem dX8_row_40 : decode cX8_row 40 = .ok (.iastore, 1) := by decide +kernel
theorem dX8_row_41 : decode cX8_row 41 = .ok (.aload_n 0, 1) := by decide +kernel
theorem dX8_row_42 : decode cX8_row 42 = .ok (.getfield 97, 3) := by decide +kernel
theorem dX8_row_45 : decode cX8_row 45 = .ok (.iload_n 1, 1) := by decide +kernel
theorem dX8_row_46 : decode cX8_row 46 = .ok (.iload_n 3, 1) := by decide +kernel
theorem dX8_row_47 : decode cX8_row 47 = .ok (.iastore, 1) := by decide +kernel
theorem dX8_row_48 : decode cX8_row 48 = .ok (.bipush 60, 2) := by decide +kernel
theorem dX8_row_50 : decode cX8_row 50 = .ok (.iload_n 1, 1) := by decide +kernel
theorem dX8_row_51 : decode cX8_row 51 = .ok (.imul, 1) := by decide +kernel
theorem dX8_row_52 : decode cX8_row 52 = .ok (.istore 4, 2) := by decide +kernel
theorem dX8_row_54 : decode cX8_row 54 = .ok (.iload 4, 2) := by decide +kernel
theorem dX8_row_56 : decode cX8_row 56 = .ok (.bipush 60, 2) := by decide +kernel
theorem dX8_row_58 : decode cX8_row 58 = .ok (.iload_n 1, 1) := by decide +kernel
theorem dX8_row_59 : decode cX8_row 59 = .ok (.imul, 1) := by decide +kernel
theorem dX8_row_60 : decode cX8_row 60 = .ok (.bipush 60, 2) := by decide +kernel
theorem dX8_row_62 : decode cX8_row 62 = .ok (.iadd, 1) := by decide +kernel
theorem dX8_row_63 : decode cX8_row 63 = .ok (.if_icmp .ge 17, 3) := by decide +kernel
theorem dX8_row_66 : decode cX8_row 66 = .ok (.aload_n 0, 1) := by decide +kernel
theorem dX8_row_67 : decode cX8_row 67 = .ok (.getfield 100, 3) := by decide +kernel
theorem dX8_row_70 : decode cX8_row 70 = .ok (.iload 4, 2) := by decide +kernel
theorem dX8_row_72 : decode cX8_row 72 = .ok (.lconst 0, 1) := by decide +kernel
theorem dX8_row_73 : decode cX8_row 73 = .ok (.lastore, 1) := by decide +kernel
theorem dX8_row_74 : decode cX8_row 74 = .ok (.iinc 4 1, 3) := by decide +kernel
theorem dX8_row_77 : decode cX8_row 77 = .ok (.goto (-23), 3) := by decide +kernel
theorem dX8_row_80 : decode cX8_row 80 = .ok (.iconst 1, 1) := by decide +kernel
theorem dX8_row_81 : decode cX8_row 81 = .ok (.ireturn, 1) := by decide +kernel
theorem dX8_whyNoPlace_0 : decode cX8_whyNoPlace 0 = .ok (.iload_n 1, 1) := by decide +kernel
theorem dX8_whyNoPlace_1 : decode cX8_whyNoPlace 1 = .ok (.invokestatic 130, 3) := by decide +kernel
theorem dX8_whyNoPlace_4 : decode cX8_whyNoPlace 4 = .ok (.ifCond .ne 5, 3) := by decide +kernel
theorem dX8_whyNoPlace_7 : decode cX8_whyNoPlace 7 = .ok (.iconst (-1), 1) := by decide +kernel
theorem dX8_whyNoPlace_8 : decode cX8_whyNoPlace 8 = .ok (.ireturn, 1) := by decide +kernel
theorem dX8_whyNoPlace_9 : decode cX8_whyNoPlace 9 = .ok (.aload_n 0, 1) := by decide +kernel
theorem dX8_whyNoPlace_10 : decode cX8_whyNoPlace 10 = .ok (.getfield 94, 3) := by decide +kernel
theorem dX8_whyNoPlace_13 : decode cX8_whyNoPlace 13 = .ok (.iload_n 1, 1) := by decide +kernel
theorem dX8_whyNoPlace_14 : decode cX8_whyNoPlace 14 = .ok (.iaload, 1) := by decide +kernel
theorem dX8_whyNoPlace_15 : decode cX8_whyNoPlace 15 = .ok (.iconst (-1), 1) := by decide +kernel
theorem dX8_whyNoPlace_16 : decode cX8_whyNoPlace 16 = .ok (.if_icmp .ne 6, 3) := by decide +kernel
theorem dX8_whyNoPlace_19 : decode cX8_whyNoPlace 19 = .ok (.bipush (-11), 2) := by decide +kernel
theorem dX8_whyNoPlace_21 : decode cX8_whyNoPlace 21 = .ok (.ireturn, 1) := by decide +kernel
theorem dX8_whyNoPlace_22 : decode cX8_whyNoPlace 22 = .ok (.aload_n 0, 1) := by decide +kernel
theorem dX8_whyNoPlace_23 : decode cX8_whyNoPlace 23 = .ok (.getfield 94, 3) := by decide +kernel
theorem dX8_whyNoPlace_26 : decode cX8_whyNoPlace 26 = .ok (.iload_n 1, 1) := by decide +kernel
theorem dX8_whyNoPlace_27 : decode cX8_whyNoPlace 27 = .ok (.iaload, 1) := by decide +kernel
theorem dX8_whyNoPlace_28 : decode cX8_whyNoPlace 28 = .ok (.ifCond .lt 6, 3) := by decide +kernel
theorem dX8_whyNoPlace_31 : decode cX8_whyNoPlace 31 = .ok (.bipush (-12), 2) := by decide +kernel
theorem dX8_whyNoPlace_33 : decode cX8_whyNoPlace 33 = .ok (.ireturn, 1) := by decide +kernel
theorem dX8_whyNoPlace_34 : decode cX8_whyNoPlace 34 = .ok (.iload_n 2, 1) := by decide +kernel
theorem dX8_whyNoPlace_35 : decode cX8_whyNoPlace 35 = .ok (.iconst 0, 1) := by decide +kernel
theorem dX8_whyNoPlace_36 : decode cX8_whyNoPlace 36 = .ok (.aload_n 0, 1) := by decide +kernel
theorem dX8_whyNoPlace_37 : decode cX8_whyNoPlace 37 = .ok (.getfield 97, 3) := by decide +kernel
theorem dX8_whyNoPlace_40 : decode cX8_whyNoPlace 40 = .ok (.iload_n 1, 1) := by decide +kernel
theorem dX8_whyNoPlace_41 : decode cX8_whyNoPlace 41 = .ok (.iaload, 1) := by decide +kernel
theorem dX8_whyNoPlace_42 : decode cX8_whyNoPlace 42 = .ok (.iconst 1, 1) := by decide +kernel
theorem dX8_whyNoPlace_43 : decode cX8_whyNoPlace 43 = .ok (.isub, 1) := by decide +kernel
theorem dX8_whyNoPlace_44 : decode cX8_whyNoPlace 44 = .ok (.invokestatic 114, 3) := by decide +kernel
theorem dX8_whyNoPlace_47 : decode cX8_whyNoPlace 47 = .ok (.ifCond .eq 7, 3) := by decide +kernel
theorem dX8_whyNoPlace_50 : decode cX8_whyNoPlace 50 = .ok (.iconst 0, 1) := by decide +kernel
theorem dX8_whyNoPlace_51 : decode cX8_whyNoPlace 51 = .ok (.goto 5, 3) := by decide +kernel
theorem dX8_whyNoPlace_54 : decode cX8_whyNoPlace 54 = .ok (.bipush (-13), 2) := by decide +kernel
theorem dX8_whyNoPlace_56 : decode cX8_whyNoPlace 56 = .ok (.ireturn, 1) := by decide +kernel
theorem dX8_put_0 : decode cX8_put 0 = .ok (.aload_n 0, 1) := by decide +kernel
theorem dX8_put_1 : decode cX8_put 1 = .ok (.iload_n 1, 1) := by decide +kernel
theorem dX8_put_2 : decode cX8_put 2 = .ok (.iload_n 2, 1) := by decide +kernel
theorem dX8_put_3 : decode cX8_put 3 = .ok (.invokevirtual 368, 3) := by decide +kernel
theorem dX8_put_6 : decode cX8_put 6 = .ok (.istore 5, 2) := by decide +kernel
theorem dX8_put_8 : decode cX8_put 8 = .ok (.iload 5, 2) := by decide +kernel
theorem dX8_put_10 : decode cX8_put 10 = .ok (.ifCond .ge 6, 3) := by decide +kernel
theorem dX8_put_13 : decode cX8_put 13 = .ok (.iload 5, 2) := by decide +kernel
theorem dX8_put_15 : decode cX8_put 15 = .ok (.ireturn, 1) := by decide +kernel
theorem dX8_put_16 : decode cX8_put 16 = .ok (.bipush (-2), 2) := by decide +kernel
theorem dX8_put_18 : decode cX8_put 18 = .ok (.aload_n 0, 1) := by decide +kernel
theorem dX8_put_19 : decode cX8_put 19 = .ok (.getfield 94, 3) := by decide +kernel
theorem dX8_put_22 : decode cX8_put 22 = .ok (.iload_n 1, 1) := by decide +kernel
theorem dX8_put_23 : decode cX8_put 23 = .ok (.iaload, 1) := by decide +kernel
theorem dX8_put_24 : decode cX8_put 24 = .ok (.isub, 1) := by decide +kernel
theorem dX8_put_25 : decode cX8_put 25 = .ok (.istore 6, 2) := by decide +kernel
theorem dX8_put_27 : decode cX8_put 27 = .ok (.aload_n 0, 1) := by decide +kernel
theorem dX8_put_28 : decode cX8_put 28 = .ok (.getfield 100, 3) := by decide +kernel
theorem dX8_put_31 : decode cX8_put 31 = .ok (.bipush 60, 2) := by decide +kernel
theorem dX8_put_33 : decode cX8_put 33 = .ok (.iload_n 1, 1) := by decide +kernel
theorem dX8_put_34 : decode cX8_put 34 = .ok (.imul, 1) := by decide +kernel
theorem dX8_put_35 : decode cX8_put 35 = .ok (.iload_n 2, 1) := by decide +kernel
theorem dX8_put_36 : decode cX8_put 36 = .ok (.iadd, 1) := by decide +kernel
theorem dX8_put_37 : decode cX8_put 37 = .ok (.iload 6, 2) := by decide +kernel
theorem dX8_put_39 : decode cX8_put 39 = .ok (.ifCond .ne 10, 3) := by decide +kernel
theorem dX8_put_42 : decode cX8_put 42 = .ok (.lload_n 3, 1) := by decide +kernel
theorem dX8_put_43 : decode cX8_put 43 = .ok (.l2i, 1) := by decide +kernel
theorem dX8_put_44 : decode cX8_put 44 = .ok (.i2b, 1) := by decide +kernel
theorem dX8_put_45 : decode cX8_put 45 = .ok (.i2l, 1) := by decide +kernel
theorem dX8_put_46 : decode cX8_put 46 = .ok (.goto 49, 3) := by decide +kernel
theorem dX8_put_49 : decode cX8_put 49 = .ok (.iload 6, 2) := by decide +kernel
theorem dX8_put_51 : decode cX8_put 51 = .ok (.iconst 1, 1) := by decide +kernel
theorem dX8_put_52 : decode cX8_put 52 = .ok (.if_icmp .ne 10, 3) := by decide +kernel
theorem dX8_put_55 : decode cX8_put 55 = .ok (.lload_n 3, 1) := by decide +kernel
theorem dX8_put_56 : decode cX8_put 56 = .ok (.l2i, 1) := by decide +kernel
theorem dX8_put_57 : decode cX8_put 57 = .ok (.i2s, 1) := by decide +kernel
theorem dX8_put_58 : decode cX8_put 58 = .ok (.i2l, 1) := by decide +kernel
theorem dX8_put_59 : decode cX8_put 59 = .ok (.goto 36, 3) := by decide +kernel
theorem dX8_put_62 : decode cX8_put 62 = .ok (.iload 6, 2) := by decide +kernel
theorem dX8_put_64 : decode cX8_put 64 = .ok (.iconst 2, 1) := by decide +kernel
theorem dX8_put_65 : decode cX8_put 65 = .ok (.if_icmp .ne 9, 3) := by decide +kernel
theorem dX8_put_68 : decode cX8_put 68 = .ok (.lload_n 3, 1) := by decide +kernel
theorem dX8_put_69 : decode cX8_put 69 = .ok (.l2i, 1) := by decide +kernel
theorem dX8_put_70 : decode cX8_put 70 = .ok (.i2l, 1) := by decide +kernel
theorem dX8_put_71 : decode cX8_put 71 = .ok (.goto 24, 3) := by decide +kernel
theorem dX8_put_74 : decode cX8_put 74 = .ok (.iload 6, 2) := by decide +kernel
theorem dX8_put_76 : decode cX8_put 76 = .ok (.iconst 3, 1) := by decide +kernel
theorem dX8_put_77 : decode cX8_put 77 = .ok (.if_icmp .ne 7, 3) := by decide +kernel
theorem dX8_put_80 : decode cX8_put 80 = .ok (.lload_n 3, 1) := by decide +kernel
theorem dX8_put_81 : decode cX8_put 81 = .ok (.goto 14, 3) := by decide +kernel
theorem dX8_put_84 : decode cX8_put 84 = .ok (.lload_n 3, 1) := by decide +kernel
theorem dX8_put_85 : decode cX8_put 85 = .ok (.lconst 0, 1) := by decide +kernel
theorem dX8_put_86 : decode cX8_put 86 = .ok (.lcmp, 1) := by decide +kernel
theorem dX8_put_87 : decode cX8_put 87 = .ok (.ifCond .eq 7, 3) := by decide +kernel
theorem dX8_put_90 : decode cX8_put 90 = .ok (.lconst 1, 1) := by decide +kernel
theorem dX8_put_91 : decode cX8_put 91 = .ok (.goto 4, 3) := by decide +kernel
theorem dX8_put_94 : decode cX8_put 94 = .ok (.lconst 0, 1) := by decide +kernel
theorem dX8_put_95 : decode cX8_put 95 = .ok (.lastore, 1) := by decide +kernel
theorem dX8_put_96 : decode cX8_put 96 = .ok (.iconst 1, 1) := by decide +kernel
theorem dX8_put_97 : decode cX8_put 97 = .ok (.ireturn, 1) := by decide +kernel
theorem dX8_element_0 : decode cX8_element 0 = .ok (.aload_n 0, 1) := by decide +kernel
theorem dX8_element_1 : decode cX8_element 1 = .ok (.iload_n 1, 1) := by decide +kernel
theorem dX8_element_2 : decode cX8_element 2 = .ok (.iload_n 2, 1) := by decide +kernel
theorem dX8_element_3 : decode cX8_element 3 = .ok (.invokevirtual 368, 3) := by decide +kernel
theorem dX8_element_6 : decode cX8_element 6 = .ok (.ifCond .ge 9, 3) := by decide +kernel
theorem dX8_element_9 : decode cX8_element 9 = .ok (.ldc2_w 373, 3) := by decide +kernel
theorem dX8_element_12 : decode cX8_element 12 = .ok (.goto 14, 3) := by decide +kernel
theorem dX8_element_15 : decode cX8_element 15 = .ok (.aload_n 0, 1) := by decide +kernel
theorem dX8_element_16 : decode cX8_element 16 = .ok (.getfield 100, 3) := by decide +kernel
theorem dX8_element_19 : decode cX8_element 19 = .ok (.bipush 60, 2) := by decide +kernel
theorem dX8_element_21 : decode cX8_element 21 = .ok (.iload_n 1, 1) := by decide +kernel
theorem dX8_element_22 : decode cX8_element 22 = .ok (.imul, 1) := by decide +kernel
theorem dX8_element_23 : decode cX8_element 23 = .ok (.iload_n 2, 1) := by decide +kernel
theorem dX8_element_24 : decode cX8_element 24 = .ok (.iadd, 1) := by decide +kernel
theorem dX8_element_25 : decode cX8_element 25 = .ok (.laload, 1) := by decide +kernel
theorem dX8_element_26 : decode cX8_element 26 = .ok (.lreturn, 1) := by decide +kernel
theorem dX8_shift_0 : decode cX8_shift 0 = .ok (.iload_n 1, 1) := by decide +kernel
theorem dX8_shift_1 : decode cX8_shift 1 = .ok (.invokestatic 130, 3) := by decide +kernel
theorem dX8_shift_4 : decode cX8_shift 4 = .ok (.ifCond .eq 10, 3) := by decide +kernel
theorem dX8_shift_7 : decode cX8_shift 7 = .ok (.iload_n 3, 1) := by decide +kernel
theorem dX8_shift_8 : decode cX8_shift 8 = .ok (.invokestatic 130, 3) := by decide +kernel
theorem dX8_shift_11 : decode cX8_shift 11 = .ok (.ifCond .ne 5, 3) := by decide +kernel
theorem dX8_shift_14 : decode cX8_shift 14 = .ok (.iconst (-1), 1) := by decide +kernel
theorem dX8_shift_15 : decode cX8_shift 15 = .ok (.ireturn, 1) := by decide +kernel
theorem dX8_shift_16 : decode cX8_shift 16 = .ok (.aload_n 0, 1) := by decide +kernel
theorem dX8_shift_17 : decode cX8_shift 17 = .ok (.getfield 94, 3) := by decide +kernel
theorem dX8_shift_20 : decode cX8_shift 20 = .ok (.iload_n 1, 1) := by decide +kernel
theorem dX8_shift_21 : decode cX8_shift 21 = .ok (.iaload, 1) := by decide +kernel
theorem dX8_shift_22 : decode cX8_shift 22 = .ok (.iconst (-1), 1) := by decide +kernel
theorem dX8_shift_23 : decode cX8_shift 23 = .ok (.if_icmp .eq 13, 3) := by decide +kernel
theorem dX8_shift_26 : decode cX8_shift 26 = .ok (.aload_n 0, 1) := by decide +kernel
theorem dX8_shift_27 : decode cX8_shift 27 = .ok (.getfield 94, 3) := by decide +kernel
theorem dX8_shift_30 : decode cX8_shift 30 = .ok (.iload_n 3, 1) := by decide +kernel
theorem dX8_shift_31 : decode cX8_shift 31 = .ok (.iaload, 1) := by decide +kernel
theorem dX8_shift_32 : decode cX8_shift 32 = .ok (.iconst (-1), 1) := by decide +kernel
theorem dX8_shift_33 : decode cX8_shift 33 = .ok (.if_icmp .ne 6, 3) := by decide +kernel
theorem dX8_shift_36 : decode cX8_shift 36 = .ok (.bipush (-11), 2) := by decide +kernel
theorem dX8_shift_38 : decode cX8_shift 38 = .ok (.ireturn, 1) := by decide +kernel
theorem dX8_shift_39 : decode cX8_shift 39 = .ok (.aload_n 0, 1) := by decide +kernel
theorem dX8_shift_40 : decode cX8_shift 40 = .ok (.getfield 94, 3) := by decide +kernel
theorem dX8_shift_43 : decode cX8_shift 43 = .ok (.iload_n 1, 1) := by decide +kernel
theorem dX8_shift_44 : decode cX8_shift 44 = .ok (.iaload, 1) := by decide +kernel
theorem dX8_shift_45 : decode cX8_shift 45 = .ok (.ifCond .ge 18, 3) := by decide +kernel
theorem dX8_shift_48 : decode cX8_shift 48 = .ok (.aload_n 0, 1) := by decide +kernel
theorem dX8_shift_49 : decode cX8_shift 49 = .ok (.getfield 94, 3) := by decide +kernel
theorem dX8_shift_52 : decode cX8_shift 52 = .ok (.iload_n 1, 1) := by decide +kernel
theorem dX8_shift_53 : decode cX8_shift 53 = .ok (.iaload, 1) := by decide +kernel
theorem dX8_shift_54 : decode cX8_shift 54 = .ok (.aload_n 0, 1) := by decide +kernel
theorem dX8_shift_55 : decode cX8_shift 55 = .ok (.getfield 94, 3) := by decide +kernel
theorem dX8_shift_58 : decode cX8_shift 58 = .ok (.iload_n 3, 1) := by decide +kernel
theorem dX8_shift_59 : decode cX8_shift 59 = .ok (.iaload, 1) := by decide +kernel
theorem dX8_shift_60 : decode cX8_shift 60 = .ok (.if_icmp .eq 6, 3) := by decide +kernel
theorem dX8_shift_63 : decode cX8_shift 63 = .ok (.bipush (-12), 2) := by decide +kernel
theorem dX8_shift_65 : decode cX8_shift 65 = .ok (.ireturn, 1) := by decide +kernel
theorem dX8_shift_66 : decode cX8_shift 66 = .ok (.iload 5, 2) := by decide +kernel
theorem dX8_shift_68 : decode cX8_shift 68 = .ok (.ifCond .lt 39, 3) := by decide +kernel
theorem dX8_shift_71 : decode cX8_shift 71 = .ok (.iload_n 2, 1) := by decide +kernel
theorem dX8_shift_72 : decode cX8_shift 72 = .ok (.ifCond .lt 35, 3) := by decide +kernel
theorem dX8_shift_75 : decode cX8_shift 75 = .ok (.iload 4, 2) := by decide +kernel
theorem dX8_shift_77 : decode cX8_shift 77 = .ok (.ifCond .lt 30, 3) := by decide +kernel
theorem dX8_shift_80 : decode cX8_shift 80 = .ok (.iload_n 2, 1) := by decide +kernel
theorem dX8_shift_81 : decode cX8_shift 81 = .ok (.aload_n 0, 1) := by decide +kernel
theorem dX8_shift_82 : decode cX8_shift 82 = .ok (.getfield 97, 3) := by decide +kernel
theorem dX8_shift_85 : decode cX8_shift 85 = .ok (.iload_n 1, 1) := by decide +kernel
theorem dX8_shift_86 : decode cX8_shift 86 = .ok (.iaload, 1) := by decide +kernel
theorem dX8_shift_87 : decode cX8_shift 87 = .ok (.iload 5, 2) := by decide +kernel
theorem dX8_shift_89 : decode cX8_shift 89 = .ok (.isub, 1) := by decide +kernel
theorem dX8_shift_90 : decode cX8_shift 90 = .ok (.if_icmp .gt 17, 3) := by decide +kernel
theorem dX8_shift_93 : decode cX8_shift 93 = .ok (.iload 4, 2) := by decide +kernel
theorem dX8_shift_95 : decode cX8_shift 95 = .ok (.aload_n 0, 1) := by decide +kernel
theorem dX8_shift_96 : decode cX8_shift 96 = .ok (.getfield 97, 3) := by decide +kernel
theorem dX8_shift_99 : decode cX8_shift 99 = .ok (.iload_n 3, 1) := by decide +kernel
theorem dX8_shift_100 : decode cX8_shift 100 = .ok (.iaload, 1) := by decide +kernel
theorem dX8_shift_101 : decode cX8_shift 101 = .ok (.iload 5, 2) := by decide +kernel
theorem dX8_shift_103 : decode cX8_shift 103 = .ok (.isub, 1) := by decide +kernel
theorem dX8_shift_104 : decode cX8_shift 104 = .ok (.if_icmp .le 6, 3) := by decide +kernel
theorem dX8_shift_107 : decode cX8_shift 107 = .ok (.bipush (-13), 2) := by decide +kernel
theorem dX8_shift_109 : decode cX8_shift 109 = .ok (.ireturn, 1) := by decide +kernel
theorem dX8_shift_110 : decode cX8_shift 110 = .ok (.iconst 0, 1) := by decide +kernel
theorem dX8_shift_111 : decode cX8_shift 111 = .ok (.istore 6, 2) := by decide +kernel
theorem dX8_shift_113 : decode cX8_shift 113 = .ok (.iload 6, 2) := by decide +kernel
theorem dX8_shift_115 : decode cX8_shift 115 = .ok (.iload 5, 2) := by decide +kernel
theorem dX8_shift_117 : decode cX8_shift 117 = .ok (.if_icmp .ge 30, 3) := by decide +kernel
theorem dX8_shift_120 : decode cX8_shift 120 = .ok (.aload_n 0, 1) := by decide +kernel
theorem dX8_shift_121 : decode cX8_shift 121 = .ok (.getfield 104, 3) := by decide +kernel
theorem dX8_shift_124 : decode cX8_shift 124 = .ok (.iload 6, 2) := by decide +kernel
theorem dX8_shift_126 : decode cX8_shift 126 = .ok (.aload_n 0, 1) := by decide +kernel
theorem dX8_shift_127 : decode cX8_shift 127 = .ok (.getfield 100, 3) := by decide +kernel
theorem dX8_shift_130 : decode cX8_shift 130 = .ok (.bipush 60, 2) := by decide +kernel
theorem dX8_shift_132 : decode cX8_shift 132 = .ok (.iload_n 1, 1) := by decide +kernel
theorem dX8_shift_133 : decode cX8_shift 133 = .ok (.imul, 1) := by decide +kernel
theorem dX8_shift_134 : decode cX8_shift 134 = .ok (.iload_n 2, 1) := by decide +kernel
theorem dX8_shift_135 : decode cX8_shift 135 = .ok (.iadd, 1) := by decide +kernel
theorem dX8_shift_136 : decode cX8_shift 136 = .ok (.iload 6, 2) := by decide +kernel
theorem dX8_shift_138 : decode cX8_shift 138 = .ok (.iadd, 1) := by decide +kernel
theorem dX8_shift_139 : decode cX8_shift 139 = .ok (.laload, 1) := by decide +kernel
theorem dX8_shift_140 : decode cX8_shift 140 = .ok (.lastore, 1) := by decide +kernel
theorem dX8_shift_141 : decode cX8_shift 141 = .ok (.iinc 6 1, 3) := by decide +kernel
theorem dX8_shift_144 : decode cX8_shift 144 = .ok (.goto (-31), 3) := by decide +kernel
theorem dX8_shift_147 : decode cX8_shift 147 = .ok (.iconst 0, 1) := by decide +kernel
theorem dX8_shift_148 : decode cX8_shift 148 = .ok (.istore 6, 2) := by decide +kernel
theorem dX8_shift_150 : decode cX8_shift 150 = .ok (.iload 6, 2) := by decide +kernel
theorem dX8_shift_152 : decode cX8_shift 152 = .ok (.iload 5, 2) := by decide +kernel
theorem dX8_shift_154 : decode cX8_shift 154 = .ok (.if_icmp .ge 31, 3) := by decide +kernel
theorem dX8_shift_157 : decode cX8_shift 157 = .ok (.aload_n 0, 1) := by decide +kernel
theorem dX8_shift_158 : decode cX8_shift 158 = .ok (.getfield 100, 3) := by decide +kernel
theorem dX8_shift_161 : decode cX8_shift 161 = .ok (.bipush 60, 2) := by decide +kernel
theorem dX8_shift_163 : decode cX8_shift 163 = .ok (.iload_n 3, 1) := by decide +kernel
theorem dX8_shift_164 : decode cX8_shift 164 = .ok (.imul, 1) := by decide +kernel
theorem dX8_shift_165 : decode cX8_shift 165 = .ok (.iload 4, 2) := by decide +kernel
theorem dX8_shift_167 : decode cX8_shift 167 = .ok (.iadd, 1) := by decide +kernel
theorem dX8_shift_168 : decode cX8_shift 168 = .ok (.iload 6, 2) := by decide +kernel
theorem dX8_shift_170 : decode cX8_shift 170 = .ok (.iadd, 1) := by decide +kernel
theorem dX8_shift_171 : decode cX8_shift 171 = .ok (.aload_n 0, 1) := by decide +kernel
theorem dX8_shift_172 : decode cX8_shift 172 = .ok (.getfield 104, 3) := by decide +kernel
theorem dX8_shift_175 : decode cX8_shift 175 = .ok (.iload 6, 2) := by decide +kernel
theorem dX8_shift_177 : decode cX8_shift 177 = .ok (.laload, 1) := by decide +kernel
theorem dX8_shift_178 : decode cX8_shift 178 = .ok (.lastore, 1) := by decide +kernel
theorem dX8_shift_179 : decode cX8_shift 179 = .ok (.iinc 6 1, 3) := by decide +kernel
theorem dX8_shift_182 : decode cX8_shift 182 = .ok (.goto (-32), 3) := by decide +kernel
theorem dX8_shift_185 : decode cX8_shift 185 = .ok (.iload 5, 2) := by decide +kernel
theorem dX8_shift_187 : decode cX8_shift 187 = .ok (.ireturn, 1) := by decide +kernel
theorem dX8_taken_0 : decode cX8_taken 0 = .ok (.iload_n 1, 1) := by decide +kernel
theorem dX8_taken_1 : decode cX8_taken 1 = .ok (.invokestatic 130, 3) := by decide +kernel
theorem dX8_taken_4 : decode cX8_taken 4 = .ok (.ifCond .eq 13, 3) := by decide +kernel
theorem dX8_taken_7 : decode cX8_taken 7 = .ok (.iload_n 2, 1) := by decide +kernel
theorem dX8_taken_8 : decode cX8_taken 8 = .ok (.iconst 0, 1) := by decide +kernel
theorem dX8_taken_9 : decode cX8_taken 9 = .ok (.bipush 7, 2) := by decide +kernel
theorem dX8_taken_11 : decode cX8_taken 11 = .ok (.invokestatic 114, 3) := by decide +kernel
theorem dX8_taken_14 : decode cX8_taken 14 = .ok (.ifCond .ne 5, 3) := by decide +kernel
theorem dX8_taken_17 : decode cX8_taken 17 = .ok (.iconst (-1), 1) := by decide +kernel
theorem dX8_taken_18 : decode cX8_taken 18 = .ok (.ireturn, 1) := by decide +kernel
theorem dX8_taken_19 : decode cX8_taken 19 = .ok (.aload_n 0, 1) := by decide +kernel
theorem dX8_taken_20 : decode cX8_taken 20 = .ok (.getfield 94, 3) := by decide +kernel
theorem dX8_taken_23 : decode cX8_taken 23 = .ok (.iload_n 1, 1) := by decide +kernel
theorem dX8_taken_24 : decode cX8_taken 24 = .ok (.iaload, 1) := by decide +kernel
theorem dX8_taken_25 : decode cX8_taken 25 = .ok (.iconst (-1), 1) := by decide +kernel
theorem dX8_taken_26 : decode cX8_taken 26 = .ok (.if_icmp .ne 6, 3) := by decide +kernel
theorem dX8_taken_29 : decode cX8_taken 29 = .ok (.bipush (-11), 2) := by decide +kernel
theorem dX8_taken_31 : decode cX8_taken 31 = .ok (.ireturn, 1) := by decide +kernel
theorem dX8_taken_32 : decode cX8_taken 32 = .ok (.aload_n 0, 1) := by decide +kernel
theorem dX8_taken_33 : decode cX8_taken 33 = .ok (.getfield 94, 3) := by decide +kernel
theorem dX8_taken_36 : decode cX8_taken 36 = .ok (.iload_n 1, 1) := by decide +kernel
theorem dX8_taken_37 : decode cX8_taken 37 = .ok (.iaload, 1) := by decide +kernel
theorem dX8_taken_38 : decode cX8_taken 38 = .ok (.ifCond .lt 35, 3) := by decide +kernel
theorem dX8_taken_41 : decode cX8_taken 41 = .ok (.aload_n 0, 1) := by decide +kernel
theorem dX8_taken_42 : decode cX8_taken 42 = .ok (.getfield 88, 3) := by decide +kernel
theorem dX8_taken_45 : decode cX8_taken 45 = .ok (.aload_n 0, 1) := by decide +kernel
theorem dX8_taken_46 : decode cX8_taken 46 = .ok (.getfield 94, 3) := by decide +kernel
theorem dX8_taken_49 : decode cX8_taken 49 = .ok (.iload_n 1, 1) := by decide +kernel
theorem dX8_taken_50 : decode cX8_taken 50 = .ok (.iaload, 1) := by decide +kernel
theorem dX8_taken_51 : decode cX8_taken 51 = .ok (.iaload, 1) := by decide +kernel
theorem dX8_taken_52 : decode cX8_taken 52 = .ok (.iload_n 2, 1) := by decide +kernel
theorem dX8_taken_53 : decode cX8_taken 53 = .ok (.invokestatic 329, 3) := by decide +kernel
theorem dX8_taken_56 : decode cX8_taken 56 = .ok (.ifCond .eq 17, 3) := by decide +kernel
theorem dX8_taken_59 : decode cX8_taken 59 = .ok (.aload_n 0, 1) := by decide +kernel
theorem dX8_taken_60 : decode cX8_taken 60 = .ok (.getfield 88, 3) := by decide +kernel
theorem dX8_taken_63 : decode cX8_taken 63 = .ok (.aload_n 0, 1) := by decide +kernel
theorem dX8_taken_64 : decode cX8_taken 64 = .ok (.getfield 94, 3) := by decide +kernel
theorem dX8_taken_67 : decode cX8_taken 67 = .ok (.iload_n 1, 1) := by decide +kernel
theorem dX8_taken_68 : decode cX8_taken 68 = .ok (.iaload, 1) := by decide +kernel
theorem dX8_taken_69 : decode cX8_taken 69 = .ok (.iaload, 1) := by decide +kernel
theorem dX8_taken_70 : decode cX8_taken 70 = .ok (.goto 5, 3) := by decide +kernel
theorem dX8_taken_73 : decode cX8_taken 73 = .ok (.bipush (-12), 2) := by decide +kernel
theorem dX8_taken_75 : decode cX8_taken 75 = .ok (.ireturn, 1) := by decide +kernel
