theorem dX12_init_0 : decode cX12_init 0 = .ok (.aload_n 0, 1) := by decide +kernel
theorem dX12_init_1 : decode cX12_init 1 = .ok (.invokespecial 1, 3) := by decide +kernel
theorem dX12_init_4 : decode cX12_init 4 = .ok (.aload_n 0, 1) := by decide +kernel
theorem dX12_init_5 : decode cX12_init 5 = .ok (.bipush 7, 2) := by decide +kernel
theorem dX12_init_7 : decode cX12_init 7 = .ok (.newarray .int, 2) := by decide +kernel
theorem dX12_init_9 : decode cX12_init 9 = .ok (.putfield 7, 3) := by decide +kernel
theorem dX12_init_12 : decode cX12_init 12 = .ok (.aload_n 0, 1) := by decide +kernel
theorem dX12_init_13 : decode cX12_init 13 = .ok (.bipush 8, 2) := by decide +kernel
theorem dX12_init_15 : decode cX12_init 15 = .ok (.newarray .int, 2) := by decide +kernel
theorem dX12_init_17 : decode cX12_init 17 = .ok (.putfield 13, 3) := by decide +kernel
theorem dX12_init_20 : decode cX12_init 20 = .ok (.aload_n 0, 1) := by decide +kernel
theorem dX12_init_21 : decode cX12_init 21 = .ok (.bipush 8, 2) := by decide +kernel
theorem dX12_init_23 : decode cX12_init 23 = .ok (.newarray .int, 2) := by decide +kernel
theorem dX12_init_25 : decode cX12_init 25 = .ok (.putfield 16, 3) := by decide +kernel
theorem dX12_init_28 : decode cX12_init 28 = .ok (.aload_n 0, 1) := by decide +kernel
theorem dX12_init_29 : decode cX12_init 29 = .ok (.bipush 8, 2) := by decide +kernel
theorem dX12_init_31 : decode cX12_init 31 = .ok (.newarray .int, 2) := by decide +kernel
theorem dX12_init_33 : decode cX12_init 33 = .ok (.putfield 19, 3) := by decide +kernel
theorem dX12_init_36 : decode cX12_init 36 = .ok (.aload_n 0, 1) := by decide +kernel
theorem dX12_init_37 : decode cX12_init 37 = .ok (.bipush 8, 2) := by decide +kernel
theorem dX12_init_39 : decode cX12_init 39 = .ok (.newarray .int, 2) := by decide +kernel
theorem dX12_init_41 : decode cX12_init 41 = .ok (.putfield 22, 3) := by decide +kernel
theorem dX12_init_44 : decode cX12_init 44 = .ok (.aload_n 0, 1) := by decide +kernel
theorem dX12_init_45 : decode cX12_init 45 = .ok (.bipush 8, 2) := by decide +kernel
theorem dX12_init_47 : decode cX12_init 47 = .ok (.newarray .int, 2) := by decide +kernel
theorem dX12_init_49 : decode cX12_init 49 = .ok (.putfield 25, 3) := by decide +kernel
theorem dX12_init_52 : decode cX12_init 52 = .ok (.aload_n 0, 1) := by decide +kernel
theorem dX12_init_53 : decode cX12_init 53 = .ok (.bipush 8, 2) := by decide +kernel
theorem dX12_init_55 : decode cX12_init 55 = .ok (.newarray .int, 2) := by decide +kernel
theorem dX12_init_57 : decode cX12_init 57 = .ok (.putfield 28, 3) := by decide +kernel
theorem dX12_init_60 : decode cX12_init 60 = .ok (.aload_n 0, 1) := by decide +kernel
theorem dX12_init_61 : decode cX12_init 61 = .ok (.bipush 8, 2) := by decide +kernel
theorem dX12_init_63 : decode cX12_init 63 = .ok (.newarray .int, 2) := by decide +kernel
theorem dX12_init_65 : decode cX12_init 65 = .ok (.putfield 31, 3) := by decide +kernel
theorem dX12_init_68 : decode cX12_init 68 = .ok (.aload_n 0, 1) := by decide +kernel
theorem dX12_init_69 : decode cX12_init 69 = .ok (.bipush 8, 2) := by decide +kernel
theorem dX12_init_71 : decode cX12_init 71 = .ok (.newarray .int, 2) := by decide +kernel
theorem dX12_init_73 : decode cX12_init 73 = .ok (.putfield 34, 3) := by decide +kernel
theorem dX12_init_76 : decode cX12_init 76 = .ok (.aload_n 0, 1) := by decide +kernel
theorem dX12_init_77 : decode cX12_init 77 = .ok (.bipush 8, 2) := by decide +kernel
theorem dX12_init_79 : decode cX12_init 79 = .ok (.newarray .boolean, 2) := by decide +kernel
theorem dX12_init_81 : decode cX12_init 81 = .ok (.putfield 37, 3) := by decide +kernel
theorem dX12_init_84 : decode cX12_init 84 = .ok (.aload_n 0, 1) := by decide +kernel
theorem dX12_init_85 : decode cX12_init 85 = .ok (.bipush 64, 2) := by decide +kernel
theorem dX12_init_87 : decode cX12_init 87 = .ok (.newarray .long, 2) := by decide +kernel
theorem dX12_init_89 : decode cX12_init 89 = .ok (.putfield 41, 3) := by decide +kernel
theorem dX12_init_92 : decode cX12_init 92 = .ok (.aload_n 0, 1) := by decide +kernel
theorem dX12_init_93 : decode cX12_init 93 = .ok (.bipush 8, 2) := by decide +kernel
theorem dX12_init_95 : decode cX12_init 95 = .ok (.newarray .long, 2) := by decide +kernel
theorem dX12_init_97 : decode cX12_init 97 = .ok (.putfield 45, 3) := by decide +kernel
theorem dX12_init_100 : decode cX12_init 100 = .ok (.aload_n 0, 1) := by decide +kernel
theorem dX12_init_101 : decode cX12_init 101 = .ok (.bipush 9, 2) := by decide +kernel
theorem dX12_init_103 : decode cX12_init 103 = .ok (.newarray .long, 2) := by decide +kernel
theorem dX12_init_105 : decode cX12_init 105 = .ok (.putfield 48, 3) := by decide +kernel
theorem dX12_init_108 : decode cX12_init 108 = .ok (.aload_n 0, 1) := by decide +kernel
theorem dX12_init_109 : decode cX12_init 109 = .ok (.bipush 20, 2) := by decide +kernel
theorem dX12_init_111 : decode cX12_init 111 = .ok (.newarray .int, 2) := by decide +kernel
theorem dX12_init_113 : decode cX12_init 113 = .ok (.putfield 51, 3) := by decide +kernel
theorem dX12_init_116 : decode cX12_init 116 = .ok (.aload_n 0, 1) := by decide +kernel
theorem dX12_init_117 : decode cX12_init 117 = .ok (.bipush 20, 2) := by decide +kernel
theorem dX12_init_119 : decode cX12_init 119 = .ok (.newarray .int, 2) := by decide +kernel
theorem dX12_init_121 : decode cX12_init 121 = .ok (.putfield 54, 3) := by decide +kernel
theorem dX12_init_124 : decode cX12_init 124 = .ok (.aload_n 0, 1) := by decide +kernel
theorem dX12_init_125 : decode cX12_init 125 = .ok (.bipush 20, 2) := by decide +kernel
theorem dX12_init_127 : decode cX12_init 127 = .ok (.newarray .int, 2) := by decide +kernel
theorem dX12_init_129 : decode cX12_init 129 = .ok (.putfield 57, 3) := by decide +kernel
theorem dX12_init_132 : decode cX12_init 132 = .ok (.aload_n 0, 1) := by decide +kernel
theorem dX12_init_133 : decode cX12_init 133 = .ok (.bipush 20, 2) := by decide +kernel
theorem dX12_init_135 : decode cX12_init 135 = .ok (.newarray .int, 2) := by decide +kernel
theorem dX12_init_137 : decode cX12_init 137 = .ok (.dup, 1) := by decide +kernel
theorem dX12_init_138 : decode cX12_init 138 = .ok (.iconst 0, 1) := by decide +kernel
theorem dX12_init_139 : decode cX12_init 139 = .ok (.iconst (-1), 1) := by decide +kernel
theorem dX12_init_140 : decode cX12_init 140 = .ok (.iastore, 1) := by decide +kernel
theorem dX12_init_141 : decode cX12_init 141 = .ok (.dup, 1) := by decide +kernel
theorem dX12_init_142 : decode cX12_init 142 = .ok (.iconst 1, 1) := by decide +kernel
theorem dX12_init_143 : decode cX12_init 143 = .ok (.iconst (-1), 1) := by decide +kernel
theorem dX12_init_144 : decode cX12_init 144 = .ok (.iastore, 1) := by decide +kernel
theorem dX12_init_145 : decode cX12_init 145 = .ok (.dup, 1) := by decide +kernel
theorem dX12_init_146 : decode cX12_init 146 = .ok (.iconst 2, 1) := by decide +kernel
theorem dX12_init_147 : decode cX12_init 147 = .ok (.iconst (-1), 1) := by decide +kernel
theorem dX12_init_148 : decode cX12_init 148 = .ok (.iastore, 1) := by decide +kernel
theorem dX12_init_149 : decode cX12_init 149 = .ok (.dup, 1) := by decide +kernel
theorem dX12_init_150 : decode cX12_init 150 = .ok (.iconst 3, 1) := by decide +kernel
theorem dX12_init_151 : decode cX12_init 151 = .ok (.iconst (-1), 1) := by decide +kernel
theorem dX12_init_152 : decode cX12_init 152 = .ok (.iastore, 1) := by decide +kernel
theorem dX12_init_153 : decode cX12_init 153 = .ok (.dup, 1) := by decide +kernel
theorem dX12_init_154 : decode cX12_init 154 = .ok (.iconst 4, 1) := by decide +kernel
theorem dX12_init_155 : decode cX12_init 155 = .ok (.iconst (-1), 1) := by decide +kernel
theorem dX12_init_156 : decode cX12_init 156 = .ok (.iastore, 1) := by decide +kernel
theorem dX12_init_157 : decode cX12_init 157 = .ok (.dup, 1) := by decide +kernel
theorem dX12_init_158 : decode cX12_init 158 = .ok (.iconst 5, 1) := by decide +kernel
theorem dX12_init_159 : decode cX12_init 159 = .ok (.iconst (-1), 1) := by decide +kernel
theorem dX12_init_160 : decode cX12_init 160 = .ok (.iastore, 1) := by decide +kernel
theorem dX12_init_161 : decode cX12_init 161 = .ok (.dup, 1) := by decide +kernel
theorem dX12_init_162 : decode cX12_init 162 = .ok (.bipush 6, 2) := by decide +kernel
theorem dX12_init_164 : decode cX12_init 164 = .ok (.iconst (-1), 1) := by decide +kernel
theorem dX12_init_165 : decode cX12_init 165 = .ok (.iastore, 1) := by decide +kernel
theorem dX12_init_166 : decode cX12_init 166 = .ok (.dup, 1) := by decide +kernel
theorem dX12_init_167 : decode cX12_init 167 = .ok (.bipush 7, 2) := by decide +kernel
theorem dX12_init_169 : decode cX12_init 169 = .ok (.iconst (-1), 1) := by decide +kernel
theorem dX12_init_170 : decode cX12_init 170 = .ok (.iastore, 1) := by decide +kernel
theorem dX12_init_171 : decode cX12_init 171 = .ok (.dup, 1) := by decide +kernel
theorem dX12_init_172 : decode cX12_init 172 = .ok (.bipush 8, 2) := by decide +kernel
theorem dX12_init_174 : decode cX12_init 174 = .ok (.iconst (-1), 1) := by decide +kernel
theorem dX12_init_175 : decode cX12_init 175 = .ok (.iastore, 1) := by decide +kernel
theorem dX12_init_176 : decode cX12_init 176 = .ok (.dup, 1) := by decide +kernel
theorem dX12_init_177 : decode cX12_init 177 = .ok (.bipush 9, 2) := by decide +kernel
theorem dX12_init_179 : decode cX12_init 179 = .ok (.iconst (-1), 1) := by decide +kernel
theorem dX12_init_180 : decode cX12_init 180 = .ok (.iastore, 1) := by decide +kernel
theorem dX12_init_181 : decode cX12_init 181 = .ok (.dup, 1) := by decide +kernel
theorem dX12_init_182 : decode cX12_init 182 = .ok (.bipush 10, 2) := by decide +kernel
theorem dX12_init_184 : decode cX12_init 184 = .ok (.iconst (-1), 1) := by decide +kernel
theorem dX12_init_185 : decode cX12_init 185 = .ok (.iastore, 1) := by decide +kernel
theorem dX12_init_186 : decode cX12_init 186 = .ok (.dup, 1) := by decide +kernel
theorem dX12_init_187 : decode cX12_init 187 = .ok (.bipush 11, 2) := by decide +kernel
theorem dX12_init_189 : decode cX12_init 189 = .ok (.iconst (-1), 1) := by decide +kernel
theorem dX12_init_190 : decode cX12_init 190 = .ok (.iastore, 1) := by decide +kernel
theorem dX12_init_191 : decode cX12_init 191 = .ok (.dup, 1) := by decide +kernel
theorem dX12_init_192 : decode cX12_init 192 = .ok (.bipush 12, 2) := by decide +kernel
theorem dX12_init_194 : decode cX12_init 194 = .ok (.iconst (-1), 1) := by decide +kernel
theorem dX12_init_195 : decode cX12_init 195 = .ok (.iastore, 1) := by decide +kernel
theorem dX12_init_196 : decode cX12_init 196 = .ok (.dup, 1) := by decide +kernel
theorem dX12_init_197 : decode cX12_init 197 = .ok (.bipush 13, 2) := by decide +kernel
theorem dX12_init_199 : decode cX12_init 199 = .ok (.iconst (-1), 1) := by decide +kernel
theorem dX12_init_200 : decode cX12_init 200 = .ok (.iastore, 1) := by decide +kernel
theorem dX12_init_201 : decode cX12_init 201 = .ok (.dup, 1) := by decide +kernel
theorem dX12_init_202 : decode cX12_init 202 = .ok (.bipush 14, 2) := by decide +kernel
theorem dX12_init_204 : decode cX12_init 204 = .ok (.iconst (-1), 1) := by decide +kernel
theorem dX12_init_205 : decode cX12_init 205 = .ok (.iastore, 1) := by decide +kernel
theorem dX12_init_206 : decode cX12_init 206 = .ok (.dup, 1) := by decide +kernel
theorem dX12_init_207 : decode cX12_init 207 = .ok (.bipush 15, 2) := by decide +kernel
theorem dX12_init_209 : decode cX12_init 209 = .ok (.iconst (-1), 1) := by decide +kernel
theorem dX12_init_210 : decode cX12_init 210 = .ok (.iastore, 1) := by decide +kernel
theorem dX12_init_211 : decode cX12_init 211 = .ok (.dup, 1) := by decide +kernel
theorem dX12_init_212 : decode cX12_init 212 = .ok (.bipush 16, 2) := by decide +kernel
theorem dX12_init_214 : decode cX12_init 214 = .ok (.iconst (-1), 1) := by decide +kernel
theorem dX12_init_215 : decode cX12_init 215 = .ok (.iastore, 1) := by decide +kernel
theorem dX12_init_216 : decode cX12_init 216 = .ok (.dup, 1) := by decide +kernel
theorem dX12_init_217 : decode cX12_init 217 = .ok (.bipush 17, 2) := by decide +kernel
theorem dX12_init_219 : decode cX12_init 219 = .ok (.iconst (-1), 1) := by decide +kernel
theorem dX12_init_220 : decode cX12_init 220 = .ok (.iastore, 1) := by decide +kernel
theorem dX12_init_221 : decode cX12_init 221 = .ok (.dup, 1) := by decide +kernel
theorem dX12_init_222 : decode cX12_init 222 = .ok (.bipush 18, 2) := by decide +kernel
theorem dX12_init_224 : decode cX12_init 224 = .ok (.iconst (-1), 1) := by decide +kernel
theorem dX12_init_225 : decode cX12_init 225 = .ok (.iastore, 1) := by decide +kernel
theorem dX12_init_226 : decode cX12_init 226 = .ok (.dup, 1) := by decide +kernel
theorem dX12_init_227 : decode cX12_init 227 = .ok (.bipush 19, 2) := by decide +kernel
theorem dX12_init_229 : decode cX12_init 229 = .ok (.iconst (-1), 1) := by decide +kernel
theorem dX12_init_230 : decode cX12_init 230 = .ok (.iastore, 1) := by decide +kernel
theorem dX12_init_231 : decode cX12_init 231 = .ok (.putfield 60, 3) := by decide +kernel
theorem dX12_init_234 : decode cX12_init 234 = .ok (.aload_n 0, 1) := by decide +kernel
theorem dX12_init_235 : decode cX12_init 235 = .ok (.bipush 12, 2) := by decide +kernel
theorem dX12_init_237 : decode cX12_init 237 = .ok (.newarray .int, 2) := by decide +kernel
theorem dX12_init_239 : decode cX12_init 239 = .ok (.putfield 63, 3) := by decide +kernel
theorem dX12_init_242 : decode cX12_init 242 = .ok (.aload_n 0, 1) := by decide +kernel
theorem dX12_init_243 : decode cX12_init 243 = .ok (.bipush 8, 2) := by decide +kernel
theorem dX12_init_245 : decode cX12_init 245 = .ok (.newarray .int, 2) := by decide +kernel
theorem dX12_init_247 : decode cX12_init 247 = .ok (.putfield 66, 3) := by decide +kernel
theorem dX12_init_250 : decode cX12_init 250 = .ok (.aload_n 0, 1) := by decide +kernel
theorem dX12_init_251 : decode cX12_init 251 = .ok (.bipush 8, 2) := by decide +kernel
theorem dX12_init_253 : decode cX12_init 253 = .ok (.newarray .int, 2) := by decide +kernel
theorem dX12_init_255 : decode cX12_init 255 = .ok (.putfield 69, 3) := by decide +kernel
theorem dX12_init_258 : decode cX12_init 258 = .ok (.aload_n 0, 1) := by decide +kernel
theorem dX12_init_259 : decode cX12_init 259 = .ok (.bipush 24, 2) := by decide +kernel
theorem dX12_init_261 : decode cX12_init 261 = .ok (.newarray .int, 2) := by decide +kernel
theorem dX12_init_263 : decode cX12_init 263 = .ok (.dup, 1) := by decide +kernel
theorem dX12_init_264 : decode cX12_init 264 = .ok (.iconst 0, 1) := by decide +kernel
theorem dX12_init_265 : decode cX12_init 265 = .ok (.bipush 10, 2) := by decide +kernel
theorem dX12_init_267 : decode cX12_init 267 = .ok (.iastore, 1) := by decide +kernel
theorem dX12_init_268 : decode cX12_init 268 = .ok (.dup, 1) := by decide +kernel
theorem dX12_init_269 : decode cX12_init 269 = .ok (.iconst 1, 1) := by decide +kernel
theorem dX12_init_270 : decode cX12_init 270 = .ok (.bipush 10, 2) := by decide +kernel
theorem dX12_init_272 : decode cX12_init 272 = .ok (.iastore, 1) := by decide +kernel
theorem dX12_init_273 : decode cX12_init 273 = .ok (.dup, 1) := by decide +kernel
theorem dX12_init_274 : decode cX12_init 274 = .ok (.iconst 2, 1) := by decide +kernel
theorem dX12_init_275 : decode cX12_init 275 = .ok (.bipush 10, 2) := by decide +kernel
theorem dX12_init_277 : decode cX12_init 277 = .ok (.iastore, 1) := by decide +kernel
theorem dX12_init_278 : decode cX12_init 278 = .ok (.dup, 1) := by decide +kernel
theorem dX12_init_279 : decode cX12_init 279 = .ok (.iconst 3, 1) := by decide +kernel
theorem dX12_init_280 : decode cX12_init 280 = .ok (.bipush 10, 2) := by decide +kernel
theorem dX12_init_282 : decode cX12_init 282 = .ok (.iastore, 1) := by decide +kernel
theorem dX12_init_283 : decode cX12_init 283 = .ok (.dup, 1) := by decide +kernel
theorem dX12_init_284 : decode cX12_init 284 = .ok (.iconst 4, 1) := by decide +kernel
theorem dX12_init_285 : decode cX12_init 285 = .ok (.bipush 10, 2) := by decide +kernel
theorem dX12_init_287 : decode cX12_init 287 = .ok (.iastore, 1) := by decide +kernel
theorem dX12_init_288 : decode cX12_init 288 = .ok (.dup, 1) := by decide +kernel
theorem dX12_init_289 : decode cX12_init 289 = .ok (.iconst 5, 1) := by decide +kernel
theorem dX12_init_290 : decode cX12_init 290 = .ok (.bipush 10, 2) := by decide +kernel
theorem dX12_init_292 : decode cX12_init 292 = .ok (.iastore, 1) := by decide +kernel
theorem dX12_init_293 : decode cX12_init 293 = .ok (.dup, 1) := by decide +kernel
theorem dX12_init_294 : decode cX12_init 294 = .ok (.bipush 6, 2) := by decide +kernel
theorem dX12_init_296 : decode cX12_init 296 = .ok (.bipush 10, 2) := by decide +kernel
theorem dX12_init_298 : decode cX12_init 298 = .ok (.iastore, 1) := by decide +kernel
theorem dX12_init_299 : decode cX12_init 299 = .ok (.dup, 1) := by decide +kernel
theorem dX12_init_300 : decode cX12_init 300 = .ok (.bipush 7, 2) := by decide +kernel
theorem dX12_init_302 : decode cX12_init 302 = .ok (.bipush 10, 2) := by decide +kernel
theorem dX12_init_304 : decode cX12_init 304 = .ok (.iastore, 1) := by decide +kernel
theorem dX12_init_305 : decode cX12_init 305 = .ok (.dup, 1) := by decide +kernel
theorem dX12_init_306 : decode cX12_init 306 = .ok (.bipush 8, 2) := by decide +kernel
theorem dX12_init_308 : decode cX12_init 308 = .ok (.bipush 10, 2) := by decide +kernel
theorem dX12_init_310 : decode cX12_init 310 = .ok (.iastore, 1) := by decide +kernel
theorem dX12_init_311 : decode cX12_init 311 = .ok (.dup, 1) := by decide +kernel
theorem dX12_init_312 : decode cX12_init 312 = .ok (.bipush 9, 2) := by decide +kernel
theorem dX12_init_314 : decode cX12_init 314 = .ok (.bipush 10, 2) := by decide +kernel
theorem dX12_init_316 : decode cX12_init 316 = .ok (.iastore, 1) := by decide +kernel
theorem dX12_init_317 : decode cX12_init 317 = .ok (.dup, 1) := by decide +kernel
theorem dX12_init_318 : decode cX12_init 318 = .ok (.bipush 10, 2) := by decide +kernel
theorem dX12_init_320 : decode cX12_init 320 = .ok (.bipush 10, 2) := by decide +kernel
theorem dX12_init_322 : decode cX12_init 322 = .ok (.iastore, 1) := by decide +kernel
theorem dX12_init_323 : decode cX12_init 323 = .ok (.dup, 1) := by decide +kernel
theorem dX12_init_324 : decode cX12_init 324 = .ok (.bipush 11, 2) := by decide +kernel
theorem dX12_init_326 : decode cX12_init 326 = .ok (.bipush 10, 2) := by decide +kernel
theorem dX12_init_328 : decode cX12_init 328 = .ok (.iastore, 1) := by decide +kernel
theorem dX12_init_329 : decode cX12_init 329 = .ok (.dup, 1) := by decide +kernel
theorem dX12_init_330 : decode cX12_init 330 = .ok (.bipush 12, 2) := by decide +kernel
theorem dX12_init_332 : decode cX12_init 332 = .ok (.bipush 10, 2) := by decide +kernel
theorem dX12_init_334 : decode cX12_init 334 = .ok (.iastore, 1) := by decide +kernel
theorem dX12_init_335 : decode cX12_init 335 = .ok (.dup, 1) := by decide +kernel
theorem dX12_init_336 : decode cX12_init 336 = .ok (.bipush 13, 2) := by decide +kernel
theorem dX12_init_338 : decode cX12_init 338 = .ok (.bipush 10, 2) := by decide +kernel
theorem dX12_init_340 : decode cX12_init 340 = .ok (.iastore, 1) := by decide +kernel
theorem dX12_init_341 : decode cX12_init 341 = .ok (.dup, 1) := by decide +kernel
theorem dX12_init_342 : decode cX12_init 342 = .ok (.bipush 14, 2) := by decide +kernel
theorem dX12_init_344 : decode cX12_init 344 = .ok (.bipush 10, 2) := by decide +kernel
theorem dX12_init_346 : decode cX12_init 346 = .ok (.iastore, 1) := by decide +kernel
theorem dX12_init_347 : decode cX12_init 347 = .ok (.dup, 1) := by decide +kernel
theorem dX12_init_348 : decode cX12_init 348 = .ok (.bipush 15, 2) := by decide +kernel
theorem dX12_init_350 : decode cX12_init 350 = .ok (.bipush 10, 2) := by decide +kernel
theorem dX12_init_352 : decode cX12_init 352 = .ok (.iastore, 1) := by decide +kernel
theorem dX12_init_353 : decode cX12_init 353 = .ok (.dup, 1) := by decide +kernel
theorem dX12_init_354 : decode cX12_init 354 = .ok (.bipush 16, 2) := by decide +kernel
theorem dX12_init_356 : decode cX12_init 356 = .ok (.bipush 10, 2) := by decide +kernel
theorem dX12_init_358 : decode cX12_init 358 = .ok (.iastore, 1) := by decide +kernel
theorem dX12_init_359 : decode cX12_init 359 = .ok (.dup, 1) := by decide +kernel
theorem dX12_init_360 : decode cX12_init 360 = .ok (.bipush 17, 2) := by decide +kernel
theorem dX12_init_362 : decode cX12_init 362 = .ok (.bipush 10, 2) := by decide +kernel
theorem dX12_init_364 : decode cX12_init 364 = .ok (.iastore, 1) := by decide +kernel
theorem dX12_init_365 : decode cX12_init 365 = .ok (.dup, 1) := by decide +kernel
theorem dX12_init_366 : decode cX12_init 366 = .ok (.bipush 18, 2) := by decide +kernel
theorem dX12_init_368 : decode cX12_init 368 = .ok (.bipush 10, 2) := by decide +kernel
theorem dX12_init_370 : decode cX12_init 370 = .ok (.iastore, 1) := by decide +kernel
theorem dX12_init_371 : decode cX12_init 371 = .ok (.dup, 1) := by decide +kernel
theorem dX12_init_372 : decode cX12_init 372 = .ok (.bipush 19, 2) := by decide +kernel
theorem dX12_init_374 : decode cX12_init 374 = .ok (.bipush 10, 2) := by decide +kernel
theorem dX12_init_376 : decode cX12_init 376 = .ok (.iastore, 1) := by decide +kernel
theorem dX12_init_377 : decode cX12_init 377 = .ok (.dup, 1) := by decide +kernel
theorem dX12_init_378 : decode cX12_init 378 = .ok (.bipush 20, 2) := by decide +kernel
theorem dX12_init_380 : decode cX12_init 380 = .ok (.bipush 10, 2) := by decide +kernel
theorem dX12_init_382 : decode cX12_init 382 = .ok (.iastore, 1) := by decide +kernel
theorem dX12_init_383 : decode cX12_init 383 = .ok (.dup, 1) := by decide +kernel
theorem dX12_init_384 : decode cX12_init 384 = .ok (.bipush 21, 2) := by decide +kernel
theorem dX12_init_386 : decode cX12_init 386 = .ok (.bipush 10, 2) := by decide +kernel
theorem dX12_init_388 : decode cX12_init 388 = .ok (.iastore, 1) := by decide +kernel
theorem dX12_init_389 : decode cX12_init 389 = .ok (.dup, 1) := by decide +kernel
theorem dX12_init_390 : decode cX12_init 390 = .ok (.bipush 22, 2) := by decide +kernel
theorem dX12_init_392 : decode cX12_init 392 = .ok (.bipush 10, 2) := by decide +kernel
theorem dX12_init_394 : decode cX12_init 394 = .ok (.iastore, 1) := by decide +kernel
theorem dX12_init_395 : decode cX12_init 395 = .ok (.dup, 1) := by decide +kernel
theorem dX12_init_396 : decode cX12_init 396 = .ok (.bipush 23, 2) := by decide +kernel
theorem dX12_init_398 : decode cX12_init 398 = .ok (.bipush 10, 2) := by decide +kernel
theorem dX12_init_400 : decode cX12_init 400 = .ok (.iastore, 1) := by decide +kernel
theorem dX12_init_401 : decode cX12_init 401 = .ok (.putfield 72, 3) := by decide +kernel
theorem dX12_init_404 : decode cX12_init 404 = .ok (.aload_n 0, 1) := by decide +kernel
theorem dX12_init_405 : decode cX12_init 405 = .ok (.bipush 24, 2) := by decide +kernel
theorem dX12_init_407 : decode cX12_init 407 = .ok (.newarray .int, 2) := by decide +kernel
theorem dX12_init_409 : decode cX12_init 409 = .ok (.putfield 75, 3) := by decide +kernel
theorem dX12_init_412 : decode cX12_init 412 = .ok (.aload_n 0, 1) := by decide +kernel
theorem dX12_init_413 : decode cX12_init 413 = .ok (.bipush 60, 2) := by decide +kernel
theorem dX12_init_415 : decode cX12_init 415 = .ok (.newarray .int, 2) := by decide +kernel
theorem dX12_init_417 : decode cX12_init 417 = .ok (.putfield 78, 3) := by decide +kernel
theorem dX12_init_420 : decode cX12_init 420 = .ok (.aload_n 0, 1) := by decide +kernel
theorem dX12_init_421 : decode cX12_init 421 = .ok (.bipush 30, 2) := by decide +kernel
theorem dX12_init_423 : decode cX12_init 423 = .ok (.newarray .int, 2) := by decide +kernel
theorem dX12_init_425 : decode cX12_init 425 = .ok (.putfield 81, 3) := by decide +kernel
theorem dX12_init_428 : decode cX12_init 428 = .ok (.aload_n 0, 1) := by decide +kernel
theorem dX12_init_429 : decode cX12_init 429 = .ok (.bipush 30, 2) := by decide +kernel
theorem dX12_init_431 : decode cX12_init 431 = .ok (.newarray .int, 2) := by decide +kernel
theorem dX12_init_433 : decode cX12_init 433 = .ok (.putfield 84, 3) := by decide +kernel
theorem dX12_init_436 : decode cX12_init 436 = .ok (.aload_n 0, 1) := by decide +kernel
theorem dX12_init_437 : decode cX12_init 437 = .ok (.bipush 30, 2) := by decide +kernel
theorem dX12_init_439 : decode cX12_init 439 = .ok (.newarray .int, 2) := by decide +kernel
theorem dX12_init_441 : decode cX12_init 441 = .ok (.putfield 87, 3) := by decide +kernel
theorem dX12_init_444 : decode cX12_init 444 = .ok (.aload_n 0, 1) := by decide +kernel
theorem dX12_init_445 : decode cX12_init 445 = .ok (.sipush 1860, 3) := by decide +kernel
theorem dX12_init_448 : decode cX12_init 448 = .ok (.newarray .int, 2) := by decide +kernel
theorem dX12_init_450 : decode cX12_init 450 = .ok (.putfield 90, 3) := by decide +kernel
theorem dX12_init_453 : decode cX12_init 453 = .ok (.aload_n 0, 1) := by decide +kernel
theorem dX12_init_454 : decode cX12_init 454 = .ok (.bipush 100, 2) := by decide +kernel
theorem dX12_init_456 : decode cX12_init 456 = .ok (.putfield 93, 3) := by decide +kernel
theorem dX12_init_459 : decode cX12_init 459 = .ok (.aload_n 0, 1) := by decide +kernel
theorem dX12_init_460 : decode cX12_init 460 = .ok (.bipush 20, 2) := by decide +kernel
theorem dX12_init_462 : decode cX12_init 462 = .ok (.newarray .int, 2) := by decide +kernel
theorem dX12_init_464 : decode cX12_init 464 = .ok (.putfield 97, 3) := by decide +kernel
theorem dX12_init_467 : decode cX12_init 467 = .ok (.aload_n 0, 1) := by decide +kernel
theorem dX12_init_468 : decode cX12_init 468 = .ok (.bipush 20, 2) := by decide +kernel
theorem dX12_init_470 : decode cX12_init 470 = .ok (.newarray .int, 2) := by decide +kernel
theorem dX12_init_472 : decode cX12_init 472 = .ok (.putfield 100, 3) := by decide +kernel
theorem dX12_init_475 : decode cX12_init 475 = .ok (.aload_n 0, 1) := by decide +kernel
theorem dX12_init_476 : decode cX12_init 476 = .ok (.bipush 20, 2) := by decide +kernel
theorem dX12_init_478 : decode cX12_init 478 = .ok (.newarray .long, 2) := by decide +kernel
theorem dX12_init_480 : decode cX12_init 480 = .ok (.putfield 103, 3) := by decide +kernel
theorem dX12_init_483 : decode cX12_init 483 = .ok (.aload_n 0, 1) := by decide +kernel
theorem dX12_init_484 : decode cX12_init 484 = .ok (.bipush 9, 2) := by decide +kernel
theorem dX12_init_486 : decode cX12_init 486 = .ok (.newarray .int, 2) := by decide +kernel
theorem dX12_init_488 : decode cX12_init 488 = .ok (.dup, 1) := by decide +kernel
theorem dX12_init_489 : decode cX12_init 489 = .ok (.iconst 0, 1) := by decide +kernel
theorem dX12_init_490 : decode cX12_init 490 = .ok (.bipush 104, 2) := by decide +kernel
theorem dX12_init_492 : decode cX12_init 492 = .ok (.iastore, 1) := by decide +kernel
theorem dX12_init_493 : decode cX12_init 493 = .ok (.dup, 1) := by decide +kernel
theorem dX12_init_494 : decode cX12_init 494 = .ok (.iconst 1, 1) := by decide +kernel
theorem dX12_init_495 : decode cX12_init 495 = .ok (.bipush 100, 2) := by decide +kernel
theorem dX12_init_497 : decode cX12_init 497 = .ok (.iastore, 1) := by decide +kernel
theorem dX12_init_498 : decode cX12_init 498 = .ok (.dup, 1) := by decide +kernel
theorem dX12_init_499 : decode cX12_init 499 = .ok (.iconst 2, 1) := by decide +kernel
theorem dX12_init_500 : decode cX12_init 500 = .ok (.bipush 112, 2) := by decide +kernel
theorem dX12_init_502 : decode cX12_init 502 = .ok (.iastore, 1) := by decide +kernel
theorem dX12_init_503 : decode cX12_init 503 = .ok (.dup, 1) := by decide +kernel
theorem dX12_init_504 : decode cX12_init 504 = .ok (.iconst 3, 1) := by decide +kernel
theorem dX12_init_505 : decode cX12_init 505 = .ok (.bipush 99, 2) := by decide +kernel
theorem dX12_init_507 : decode cX12_init 507 = .ok (.iastore, 1) := by decide +kernel
theorem dX12_init_508 : decode cX12_init 508 = .ok (.dup, 1) := by decide +kernel
theorem dX12_init_509 : decode cX12_init 509 = .ok (.iconst 4, 1) := by decide +kernel
theorem dX12_init_510 : decode cX12_init 510 = .ok (.bipush 110, 2) := by decide +kernel
theorem dX12_init_512 : decode cX12_init 512 = .ok (.iastore, 1) := by decide +kernel
theorem dX12_init_513 : decode cX12_init 513 = .ok (.dup, 1) := by decide +kernel
theorem dX12_init_514 : decode cX12_init 514 = .ok (.iconst 5, 1) := by decide +kernel
theorem dX12_init_515 : decode cX12_init 515 = .ok (.bipush 116, 2) := by decide +kernel
theorem dX12_init_517 : decode cX12_init 517 = .ok (.iastore, 1) := by decide +kernel
theorem dX12_init_518 : decode cX12_init 518 = .ok (.dup, 1) := by decide +kernel
theorem dX12_init_519 : decode cX12_init 519 = .ok (.bipush 6, 2) := by decide +kernel
theorem dX12_init_521 : decode cX12_init 521 = .ok (.bipush 114, 2) := by decide +kernel
theorem dX12_init_523 : decode cX12_init 523 = .ok (.iastore, 1) := by decide +kernel
theorem dX12_init_524 : decode cX12_init 524 = .ok (.dup, 1) := by decide +kernel
theorem dX12_init_525 : decode cX12_init 525 = .ok (.bipush 7, 2) := by decide +kernel
theorem dX12_init_527 : decode cX12_init 527 = .ok (.bipush 98, 2) := by decide +kernel
theorem dX12_init_529 : decode cX12_init 529 = .ok (.iastore, 1) := by decide +kernel
theorem dX12_init_530 : decode cX12_init 530 = .ok (.dup, 1) := by decide +kernel
theorem dX12_init_531 : decode cX12_init 531 = .ok (.bipush 8, 2) := by decide +kernel
theorem dX12_init_533 : decode cX12_init 533 = .ok (.bipush 102, 2) := by decide +kernel
theorem dX12_init_535 : decode cX12_init 535 = .ok (.iastore, 1) := by decide +kernel
theorem dX12_init_536 : decode cX12_init 536 = .ok (.putfield 106, 3) := by decide +kernel
theorem dX12_init_539 : decode cX12_init 539 = .ok (.aload_n 0, 1) := by decide +kernel
theorem dX12_init_540 : decode cX12_init 540 = .ok (.bipush 9, 2) := by decide +kernel
theorem dX12_init_542 : decode cX12_init 542 = .ok (.newarray .long, 2) := by decide +kernel
theorem dX12_init_544 : decode cX12_init 544 = .ok (.putfield 109, 3) := by decide +kernel
theorem dX12_init_547 : decode cX12_init 547 = .ok (.aload_n 0, 1) := by decide +kernel
theorem dX12_init_548 : decode cX12_init 548 = .ok (.bipush 62, 2) := by decide +kernel
theorem dX12_init_550 : decode cX12_init 550 = .ok (.newarray .long, 2) := by decide +kernel
theorem dX12_init_552 : decode cX12_init 552 = .ok (.putfield 112, 3) := by decide +kernel
theorem dX12_init_555 : decode cX12_init 555 = .ok (.aload_n 0, 1) := by decide +kernel
theorem dX12_init_556 : decode cX12_init 556 = .ok (.bipush 64, 2) := by decide +kernel
theorem dX12_init_558 : decode cX12_init 558 = .ok (.newarray .long, 2) := by decide +kernel
theorem dX12_init_560 : decode cX12_init 560 = .ok (.putfield 115, 3) := by decide +kernel
theorem dX12_init_563 : decode cX12_init 563 = .ok (.aload_n 0, 1) := by decide +kernel
theorem dX12_init_564 : decode cX12_init 564 = .ok (.bipush 64, 2) := by decide +kernel
theorem dX12_init_566 : decode cX12_init 566 = .ok (.newarray .long, 2) := by decide +kernel
theorem dX12_init_568 : decode cX12_init 568 = .ok (.putfield 118, 3) := by decide +kernel
theorem dX12_init_571 : decode cX12_init 571 = .ok (.aload_n 0, 1) := by decide +kernel
theorem dX12_init_572 : decode cX12_init 572 = .ok (.bipush 8, 2) := by decide +kernel
theorem dX12_init_574 : decode cX12_init 574 = .ok (.newarray .long, 2) := by decide +kernel
theorem dX12_init_576 : decode cX12_init 576 = .ok (.putfield 121, 3) := by decide +kernel
theorem dX12_init_579 : decode cX12_init 579 = .ok (.aload_n 0, 1) := by decide +kernel
theorem dX12_init_580 : decode cX12_init 580 = .ok (.bipush 8, 2) := by decide +kernel
theorem dX12_init_582 : decode cX12_init 582 = .ok (.newarray .long, 2) := by decide +kernel
theorem dX12_init_584 : decode cX12_init 584 = .ok (.putfield 124, 3) := by decide +kernel
theorem dX12_init_587 : decode cX12_init 587 = .ok (.aload_n 0, 1) := by decide +kernel
theorem dX12_init_588 : decode cX12_init 588 = .ok (.bipush 8, 2) := by decide +kernel
theorem dX12_init_590 : decode cX12_init 590 = .ok (.newarray .long, 2) := by decide +kernel
theorem dX12_init_592 : decode cX12_init 592 = .ok (.putfield 127, 3) := by decide +kernel
theorem dX12_init_595 : decode cX12_init 595 = .ok (.aload_n 0, 1) := by decide +kernel
theorem dX12_init_596 : decode cX12_init 596 = .ok (.bipush 64, 2) := by decide +kernel
theorem dX12_init_598 : decode cX12_init 598 = .ok (.newarray .long, 2) := by decide +kernel
theorem dX12_init_600 : decode cX12_init 600 = .ok (.putfield 130, 3) := by decide +kernel
theorem dX12_init_603 : decode cX12_init 603 = .ok (.aload_n 0, 1) := by decide +kernel
theorem dX12_init_604 : decode cX12_init 604 = .ok (.bipush 8, 2) := by decide +kernel
theorem dX12_init_606 : decode cX12_init 606 = .ok (.newarray .long, 2) := by decide +kernel
theorem dX12_init_608 : decode cX12_init 608 = .ok (.putfield 133, 3) := by decide +kernel
theorem dX12_init_611 : decode cX12_init 611 = .ok (.aload_n 0, 1) := by decide +kernel
theorem dX12_init_612 : decode cX12_init 612 = .ok (.bipush 9, 2) := by decide +kernel
theorem dX12_init_614 : decode cX12_init 614 = .ok (.newarray .long, 2) := by decide +kernel
theorem dX12_init_616 : decode cX12_init 616 = .ok (.putfield 136, 3) := by decide +kernel
theorem dX12_init_619 : decode cX12_init 619 = .ok (.aload_n 0, 1) := by decide +kernel
theorem dX12_init_620 : decode cX12_init 620 = .ok (.bipush 8, 2) := by decide +kernel
theorem dX12_init_622 : decode cX12_init 622 = .ok (.newarray .boolean, 2) := by decide +kernel
theorem dX12_init_624 : decode cX12_init 624 = .ok (.putfield 139, 3) := by decide +kernel
theorem dX12_init_627 : decode cX12_init 627 = .ok (.aload_n 0, 1) := by decide +kernel
theorem dX12_init_628 : decode cX12_init 628 = .ok (.sipush 250, 3) := by decide +kernel
theorem dX12_init_631 : decode cX12_init 631 = .ok (.newarray .long, 2) := by decide +kernel
theorem dX12_init_633 : decode cX12_init 633 = .ok (.putfield 142, 3) := by decide +kernel
theorem dX12_init_636 : decode cX12_init 636 = .ok (.aload_n 0, 1) := by decide +kernel
theorem dX12_init_637 : decode cX12_init 637 = .ok (.bipush 24, 2) := by decide +kernel
theorem dX12_init_639 : decode cX12_init 639 = .ok (.newarray .long, 2) := by decide +kernel
theorem dX12_init_641 : decode cX12_init 641 = .ok (.putfield 145, 3) := by decide +kernel
theorem dX12_init_644 : decode cX12_init 644 = .ok (.return_, 1) := by decide +kernel
theorem dX12_in_0 : decode cX12_in 0 = .ok (.lload_n 0, 1) := by decide +kernel
theorem dX12_in_1 : decode cX12_in 1 = .ok (.lload_n 2, 1) := by decide +kernel
theorem dX12_in_2 : decode cX12_in 2 = .ok (.lcmp, 1) := by decide +kernel
theorem dX12_in_3 : decode cX12_in 3 = .ok (.ifCond .lt 14, 3) := by decide +kernel
theorem dX12_in_6 : decode cX12_in 6 = .ok (.lload_n 0, 1) := by decide +kernel
theorem dX12_in_7 : decode cX12_in 7 = .ok (.lload 4, 2) := by decide +kernel
theorem dX12_in_9 : decode cX12_in 9 = .ok (.lcmp, 1) := by decide +kernel
theorem dX12_in_10 : decode cX12_in 10 = .ok (.ifCond .gt 7, 3) := by decide +kernel
theorem dX12_in_13 : decode cX12_in 13 = .ok (.iconst 1, 1) := by decide +kernel
theorem dX12_in_14 : decode cX12_in 14 = .ok (.goto 4, 3) := by decide +kernel
theorem dX12_in_17 : decode cX12_in 17 = .ok (.iconst 0, 1) := by decide +kernel
theorem dX12_in_18 : decode cX12_in 18 = .ok (.ireturn, 1) := by decide +kernel
theorem dX12_refuse_0 : decode cX12_refuse 0 = .ok (.aload_n 0, 1) := by decide +kernel
theorem dX12_refuse_1 : decode cX12_refuse 1 = .ok (.getfield 7, 3) := by decide +kernel
theorem dX12_refuse_4 : decode cX12_refuse 4 = .ok (.iload_n 1, 1) := by decide +kernel
theorem dX12_refuse_5 : decode cX12_refuse 5 = .ok (.ineg, 1) := by decide +kernel
theorem dX12_refuse_6 : decode cX12_refuse 6 = .ok (.dup2, 1) := by decide +kernel
theorem dX12_refuse_7 : decode cX12_refuse 7 = .ok (.iaload, 1) := by decide +kernel
theorem dX12_refuse_8 : decode cX12_refuse 8 = .ok (.iconst 1, 1) := by decide +kernel
theorem dX12_refuse_9 : decode cX12_refuse 9 = .ok (.iadd, 1) := by decide +kernel
theorem dX12_refuse_10 : decode cX12_refuse 10 = .ok (.iastore, 1) := by decide +kernel
theorem dX12_refuse_11 : decode cX12_refuse 11 = .ok (.iload_n 1, 1) := by decide +kernel
theorem dX12_refuse_12 : decode cX12_refuse 12 = .ok (.ireturn, 1) := by decide +kernel
theorem dX12_refuseLong_0 : decode cX12_refuseLong 0 = .ok (.ldc2_w 148, 3) := by decide +kernel
theorem dX12_refuseLong_3 : decode cX12_refuseLong 3 = .ok (.aload_n 0, 1) := by decide +kernel
theorem dX12_refuseLong_4 : decode cX12_refuseLong 4 = .ok (.iload_n 1, 1) := by decide +kernel
theorem dX12_refuseLong_5 : decode cX12_refuseLong 5 = .ok (.invokevirtual 150, 3) := by decide +kernel
theorem dX12_refuseLong_8 : decode cX12_refuseLong 8 = .ok (.i2l, 1) := by decide +kernel
theorem dX12_refuseLong_9 : decode cX12_refuseLong 9 = .ok (.lsub, 1) := by decide +kernel
theorem dX12_refuseLong_10 : decode cX12_refuseLong 10 = .ok (.lreturn, 1) := by decide +kernel
theorem dX12_isBore_0 : decode cX12_isBore 0 = .ok (.iload_n 1, 1) := by decide +kernel
theorem dX12_isBore_1 : decode cX12_isBore 1 = .ok (.i2l, 1) := by decide +kernel
theorem dX12_isBore_2 : decode cX12_isBore 2 = .ok (.lconst 0, 1) := by decide +kernel
theorem dX12_isBore_3 : decode cX12_isBore 3 = .ok (.aload_n 0, 1) := by decide +kernel
theorem dX12_isBore_4 : decode cX12_isBore 4 = .ok (.getfield 154, 3) := by decide +kernel
theorem dX12_isBore_7 : decode cX12_isBore 7 = .ok (.iconst 1, 1) := by decide +kernel
theorem dX12_isBore_8 : decode cX12_isBore 8 = .ok (.isub, 1) := by decide +kernel
theorem dX12_isBore_9 : decode cX12_isBore 9 = .ok (.i2l, 1) := by decide +kernel
theorem dX12_isBore_10 : decode cX12_isBore 10 = .ok (.invokestatic 157, 3) := by decide +kernel
theorem dX12_isBore_13 : decode cX12_isBore 13 = .ok (.ireturn, 1) := by decide +kernel
theorem dX12_cut_0 : decode cX12_cut 0 = .ok (.lload_n 0, 1) := by decide +kernel
theorem dX12_cut_1 : decode cX12_cut 1 = .ok (.lload_n 2, 1) := by decide +kernel
theorem dX12_cut_2 : decode cX12_cut 2 = .ok (.lcmp, 1) := by decide +kernel
theorem dX12_cut_3 : decode cX12_cut 3 = .ok (.ifCond .ge 7, 3) := by decide +kernel
theorem dX12_cut_6 : decode cX12_cut 6 = .ok (.lload_n 2, 1) := by decide +kernel
theorem dX12_cut_7 : decode cX12_cut 7 = .ok (.goto 16, 3) := by decide +kernel
theorem dX12_cut_10 : decode cX12_cut 10 = .ok (.lload_n 0, 1) := by decide +kernel
theorem dX12_cut_11 : decode cX12_cut 11 = .ok (.lload 4, 2) := by decide +kernel
theorem dX12_cut_13 : decode cX12_cut 13 = .ok (.lcmp, 1) := by decide +kernel
theorem dX12_cut_14 : decode cX12_cut 14 = .ok (.ifCond .le 8, 3) := by decide +kernel
theorem dX12_cut_17 : decode cX12_cut 17 = .ok (.lload 4, 2) := by decide +kernel
theorem dX12_cut_19 : decode cX12_cut 19 = .ok (.goto 4, 3) := by decide +kernel
theorem dX12_cut_22 : decode cX12_cut 22 = .ok (.lload_n 0, 1) := by decide +kernel
theorem dX12_cut_23 : decode cX12_cut 23 = .ok (.lreturn, 1) := by decide +kernel
theorem dX12_holdOf_0 : decode cX12_holdOf 0 = .ok (.aload_n 0, 1) := by decide +kernel
theorem dX12_holdOf_1 : decode cX12_holdOf 1 = .ok (.getfield 22, 3) := by decide +kernel
theorem dX12_holdOf_4 : decode cX12_holdOf 4 = .ok (.iload_n 1, 1) := by decide +kernel
theorem dX12_holdOf_5 : decode cX12_holdOf 5 = .ok (.iaload, 1) := by decide +kernel
theorem dX12_holdOf_6 : decode cX12_holdOf 6 = .ok (.iload_n 2, 1) := by decide +kernel
theorem dX12_holdOf_7 : decode cX12_holdOf 7 = .ok (.aload_n 0, 1) := by decide +kernel
theorem dX12_holdOf_8 : decode cX12_holdOf 8 = .ok (.getfield 25, 3) := by decide +kernel
theorem dX12_holdOf_11 : decode cX12_holdOf 11 = .ok (.iload_n 1, 1) := by decide +kernel
theorem dX12_holdOf_12 : decode cX12_holdOf 12 = .ok (.iaload, 1) := by decide +kernel
theorem dX12_holdOf_13 : decode cX12_holdOf 13 = .ok (.imul, 1) := by decide +kernel
theorem dX12_holdOf_14 : decode cX12_holdOf 14 = .ok (.iadd, 1) := by decide +kernel
theorem dX12_holdOf_15 : decode cX12_holdOf 15 = .ok (.ireturn, 1) := by decide +kernel
theorem dX12_warmthOf_0 : decode cX12_warmthOf 0 = .ok (.aload_n 0, 1) := by decide +kernel
theorem dX12_warmthOf_1 : decode cX12_warmthOf 1 = .ok (.getfield 41, 3) := by decide +kernel
theorem dX12_warmthOf_4 : decode cX12_warmthOf 4 = .ok (.bipush 8, 2) := by decide +kernel
theorem dX12_warmthOf_6 : decode cX12_warmthOf 6 = .ok (.iload_n 1, 1) := by decide +kernel
theorem dX12_warmthOf_7 : decode cX12_warmthOf 7 = .ok (.imul, 1) := by decide +kernel
theorem dX12_warmthOf_8 : decode cX12_warmthOf 8 = .ok (.iload_n 2, 1) := by decide +kernel
theorem dX12_warmthOf_9 : decode cX12_warmthOf 9 = .ok (.iadd, 1) := by decide +kernel
theorem dX12_warmthOf_10 : decode cX12_warmthOf 10 = .ok (.laload, 1) := by decide +kernel
theorem dX12_warmthOf_11 : decode cX12_warmthOf 11 = .ok (.aload_n 0, 1) := by decide +kernel
theorem dX12_warmthOf_12 : decode cX12_warmthOf 12 = .ok (.iload_n 1, 1) := by decide +kernel
theorem dX12_warmthOf_13 : decode cX12_warmthOf 13 = .ok (.iload_n 2, 1) := by decide +kernel
theorem dX12_warmthOf_14 : decode cX12_warmthOf 14 = .ok (.invokevirtual 161, 3) := by decide +kernel
theorem dX12_warmthOf_17 : decode cX12_warmthOf 17 = .ok (.i2l, 1) := by decide +kernel
theorem dX12_warmthOf_18 : decode cX12_warmthOf 18 = .ok (.ldiv, 1) := by decide +kernel
theorem dX12_warmthOf_19 : decode cX12_warmthOf 19 = .ok (.lreturn, 1) := by decide +kernel
theorem dX12_atFirst_0 : decode cX12_atFirst 0 = .ok (.ldc2_w 165, 3) := by decide +kernel
theorem dX12_atFirst_3 : decode cX12_atFirst 3 = .ok (.aload_n 0, 1) := by decide +kernel
theorem dX12_atFirst_4 : decode cX12_atFirst 4 = .ok (.getfield 28, 3) := by decide +kernel
theorem dX12_atFirst_7 : decode cX12_atFirst 7 = .ok (.iload_n 1, 1) := by decide +kernel
theorem dX12_atFirst_8 : decode cX12_atFirst 8 = .ok (.iaload, 1) := by decide +kernel
theorem dX12_atFirst_9 : decode cX12_atFirst 9 = .ok (.i2l, 1) := by decide +kernel
theorem dX12_atFirst_10 : decode cX12_atFirst 10 = .ok (.lmul, 1) := by decide +kernel
theorem dX12_atFirst_11 : decode cX12_atFirst 11 = .ok (.aload_n 0, 1) := by decide +kernel
theorem dX12_atFirst_12 : decode cX12_atFirst 12 = .ok (.iload_n 1, 1) := by decide +kernel
theorem dX12_atFirst_13 : decode cX12_atFirst 13 = .ok (.iload_n 2, 1) := by decide +kernel
theorem dX12_atFirst_14 : decode cX12_atFirst 14 = .ok (.invokevirtual 161, 3) := by decide +kernel
theorem dX12_atFirst_17 : decode cX12_atFirst 17 = .ok (.i2l, 1) := by decide +kernel
theorem dX12_atFirst_18 : decode cX12_atFirst 18 = .ok (.lmul, 1) := by decide +kernel
theorem dX12_atFirst_19 : decode cX12_atFirst 19 = .ok (.lreturn, 1) := by decide +kernel
theorem dX12_hours_0 : decode cX12_hours 0 = .ok (.iload_n 1, 1) := by decide +kernel
theorem dX12_hours_1 : decode cX12_hours 1 = .ok (.iconst 1, 1) := by decide +kernel
theorem dX12_hours_2 : decode cX12_hours 2 = .ok (.if_icmp .ge 10, 3) := by decide +kernel
theorem dX12_hours_5 : decode cX12_hours 5 = .ok (.aload_n 0, 1) := by decide +kernel
theorem dX12_hours_6 : decode cX12_hours 6 = .ok (.bipush (-4), 2) := by decide +kernel
theorem dX12_hours_8 : decode cX12_hours 8 = .ok (.invokevirtual 150, 3) := by decide +kernel
theorem dX12_hours_11 : decode cX12_hours 11 = .ok (.ireturn, 1) := by decide +kernel
theorem dX12_hours_12 : decode cX12_hours 12 = .ok (.iload_n 1, 1) := by decide +kernel
theorem dX12_hours_13 : decode cX12_hours 13 = .ok (.sipush 8000, 3) := by decide +kernel
theorem dX12_hours_16 : decode cX12_hours 16 = .ok (.aload_n 0, 1) := by decide +kernel
theorem dX12_hours_17 : decode cX12_hours 17 = .ok (.getfield 167, 3) := by decide +kernel
theorem dX12_hours_20 : decode cX12_hours 20 = .ok (.isub, 1) := by decide +kernel
theorem dX12_hours_21 : decode cX12_hours 21 = .ok (.if_icmp .le 10, 3) := by decide +kernel
theorem dX12_hours_24 : decode cX12_hours 24 = .ok (.aload_n 0, 1) := by decide +kernel
theorem dX12_hours_25 : decode cX12_hours 25 = .ok (.bipush (-6), 2) := by decide +kernel
theorem dX12_hours_27 : decode cX12_hours 27 = .ok (.invokevirtual 150, 3) := by decide +kernel
theorem dX12_hours_30 : decode cX12_hours 30 = .ok (.ireturn, 1) := by decide +kernel
theorem dX12_hours_31 : decode cX12_hours 31 = .ok (.iconst 0, 1) := by decide +kernel
theorem dX12_hours_32 : decode cX12_hours 32 = .ok (.istore_n 2, 1) := by decide +kernel
theorem dX12_hours_33 : decode cX12_hours 33 = .ok (.iload_n 2, 1) := by decide +kernel
theorem dX12_hours_34 : decode cX12_hours 34 = .ok (.iload_n 1, 1) := by decide +kernel
theorem dX12_hours_35 : decode cX12_hours 35 = .ok (.if_icmp .ge 13, 3) := by decide +kernel
theorem dX12_hours_38 : decode cX12_hours 38 = .ok (.aload_n 0, 1) := by decide +kernel
theorem dX12_hours_39 : decode cX12_hours 39 = .ok (.invokevirtual 170, 3) := by decide +kernel
theorem dX12_hours_42 : decode cX12_hours 42 = .ok (.iinc 2 1, 3) := by decide +kernel
theorem dX12_hours_45 : decode cX12_hours 45 = .ok (.goto (-12), 3) := by decide +kernel
theorem dX12_hours_48 : decode cX12_hours 48 = .ok (.aload_n 0, 1) := by decide +kernel
theorem dX12_hours_49 : decode cX12_hours 49 = .ok (.getfield 167, 3) := by decide +kernel
theorem dX12_hours_52 : decode cX12_hours 52 = .ok (.ireturn, 1) := by decide +kernel
theorem dX12_bore_0 : decode cX12_bore 0 = .ok (.iload_n 1, 1) := by decide +kernel
theorem dX12_bore_1 : decode cX12_bore 1 = .ok (.ifCond .lt 24, 3) := by decide +kernel
theorem dX12_bore_4 : decode cX12_bore 4 = .ok (.iload_n 2, 1) := by decide +kernel
theorem dX12_bore_5 : decode cX12_bore 5 = .ok (.iconst 1, 1) := by decide +kernel
theorem dX12_bore_6 : decode cX12_bore 6 = .ok (.if_icmp .lt 19, 3) := by decide +kernel
theorem dX12_bore_9 : decode cX12_bore 9 = .ok (.iload_n 3, 1) := by decide +kernel
theorem dX12_bore_10 : decode cX12_bore 10 = .ok (.bipush 100, 2) := by decide +kernel
theorem dX12_bore_12 : decode cX12_bore 12 = .ok (.if_icmp .lt 13, 3) := by decide +kernel
theorem dX12_bore_15 : decode cX12_bore 15 = .ok (.iload 4, 2) := by decide +kernel
theorem dX12_bore_17 : decode cX12_bore 17 = .ok (.ifCond .lt 8, 3) := by decide +kernel
theorem dX12_bore_20 : decode cX12_bore 20 = .ok (.iload 5, 2) := by decide +kernel
theorem dX12_bore_22 : decode cX12_bore 22 = .ok (.ifCond .ge 10, 3) := by decide +kernel
theorem dX12_bore_25 : decode cX12_bore 25 = .ok (.aload_n 0, 1) := by decide +kernel
theorem dX12_bore_26 : decode cX12_bore 26 = .ok (.bipush (-4), 2) := by decide +kernel
theorem dX12_bore_28 : decode cX12_bore 28 = .ok (.invokevirtual 150, 3) := by decide +kernel
theorem dX12_bore_31 : decode cX12_bore 31 = .ok (.ireturn, 1) := by decide +kernel
theorem dX12_bore_32 : decode cX12_bore 32 = .ok (.iload_n 1, 1) := by decide +kernel
theorem dX12_bore_33 : decode cX12_bore 33 = .ok (.sipush 9999, 3) := by decide +kernel
theorem dX12_bore_36 : decode cX12_bore 36 = .ok (.if_icmp .gt 40, 3) := by decide +kernel
theorem dX12_bore_39 : decode cX12_bore 39 = .ok (.iload_n 2, 1) := by decide +kernel
theorem dX12_bore_40 : decode cX12_bore 40 = .ok (.bipush 8, 2) := by decide +kernel
theorem dX12_bore_42 : decode cX12_bore 42 = .ok (.if_icmp .gt 34, 3) := by decide +kernel
theorem dX12_bore_45 : decode cX12_bore 45 = .ok (.iload_n 3, 1) := by decide +kernel
theorem dX12_bore_46 : decode cX12_bore 46 = .ok (.sipush 9999, 3) := by decide +kernel
theorem dX12_bore_49 : decode cX12_bore 49 = .ok (.if_icmp .gt 27, 3) := by decide +kernel
theorem dX12_bore_52 : decode cX12_bore 52 = .ok (.iload 4, 2) := by decide +kernel
theorem dX12_bore_54 : decode cX12_bore 54 = .ok (.sipush 999, 3) := by decide +kernel
theorem dX12_bore_57 : decode cX12_bore 57 = .ok (.if_icmp .gt 19, 3) := by decide +kernel
theorem dX12_bore_60 : decode cX12_bore 60 = .ok (.iload 5, 2) := by decide +kernel
theorem dX12_bore_62 : decode cX12_bore 62 = .ok (.bipush 99, 2) := by decide +kernel
theorem dX12_bore_64 : decode cX12_bore 64 = .ok (.if_icmp .gt 12, 3) := by decide +kernel
theorem dX12_bore_67 : decode cX12_bore 67 = .ok (.aload_n 0, 1) := by decide +kernel
theorem dX12_bore_68 : decode cX12_bore 68 = .ok (.getfield 154, 3) := by decide +kernel
theorem dX12_bore_71 : decode cX12_bore 71 = .ok (.bipush 8, 2) := by decide +kernel
theorem dX12_bore_73 : decode cX12_bore 73 = .ok (.if_icmp .ne 10, 3) := by decide +kernel
theorem dX12_bore_76 : decode cX12_bore 76 = .ok (.aload_n 0, 1) := by decide +kernel
theorem dX12_bore_77 : decode cX12_bore 77 = .ok (.bipush (-6), 2) := by decide +kernel
theorem dX12_bore_79 : decode cX12_bore 79 = .ok (.invokevirtual 150, 3) := by decide +kernel
theorem dX12_bore_82 : decode cX12_bore 82 = .ok (.ireturn, 1) := by decide +kernel
theorem dX12_bore_83 : decode cX12_bore 83 = .ok (.aload_n 0, 1) := by decide +kernel
theorem dX12_bore_84 : decode cX12_bore 84 = .ok (.getfield 154, 3) := by decide +kernel
theorem dX12_bore_87 : decode cX12_bore 87 = .ok (.istore 6, 2) := by decide +kernel
theorem dX12_bore_89 : decode cX12_bore 89 = .ok (.aload_n 0, 1) := by decide +kernel
theorem dX12_bore_90 : decode cX12_bore 90 = .ok (.dup, 1) := by decide +kernel
theorem dX12_bore_91 : decode cX12_bore 91 = .ok (.getfield 154, 3) := by decide +kernel
theorem dX12_bore_94 : decode cX12_bore 94 = .ok (.iconst 1, 1) := by decide +kernel
theorem dX12_bore_95 : decode cX12_bore 95 = .ok (.iadd, 1) := by decide +kernel
theorem dX12_bore_96 : decode cX12_bore 96 = .ok (.putfield 154, 3) := by decide +kernel
theorem dX12_bore_99 : decode cX12_bore 99 = .ok (.aload_n 0, 1) := by decide +kernel
theorem dX12_bore_100 : decode cX12_bore 100 = .ok (.getfield 13, 3) := by decide +kernel
theorem dX12_bore_103 : decode cX12_bore 103 = .ok (.iload 6, 2) := by decide +kernel
theorem dX12_bore_105 : decode cX12_bore 105 = .ok (.iload_n 1, 1) := by decide +kernel
theorem dX12_bore_106 : decode cX12_bore 106 = .ok (.bipush 100, 2) := by decide +kernel
theorem dX12_bore_108 : decode cX12_bore 108 = .ok (.idiv, 1) := by decide +kernel
theorem dX12_bore_109 : decode cX12_bore 109 = .ok (.iastore, 1) := by decide +kernel
theorem dX12_bore_110 : decode cX12_bore 110 = .ok (.aload_n 0, 1) := by decide +kernel
theorem dX12_bore_111 : decode cX12_bore 111 = .ok (.getfield 16, 3) := by decide +kernel
theorem dX12_bore_114 : decode cX12_bore 114 = .ok (.iload 6, 2) := by decide +kernel
theorem dX12_bore_116 : decode cX12_bore 116 = .ok (.iload_n 1, 1) := by decide +kernel
theorem dX12_bore_117 : decode cX12_bore 117 = .ok (.bipush 100, 2) := by decide +kernel
theorem dX12_bore_119 : decode cX12_bore 119 = .ok (.irem, 1) := by decide +kernel
theorem dX12_bore_120 : decode cX12_bore 120 = .ok (.iastore, 1) := by decide +kernel
theorem dX12_bore_121 : decode cX12_bore 121 = .ok (.aload_n 0, 1) := by decide +kernel
theorem dX12_bore_122 : decode cX12_bore 122 = .ok (.getfield 19, 3) := by decide +kernel
theorem dX12_bore_125 : decode cX12_bore 125 = .ok (.iload 6, 2) := by decide +kernel
theorem dX12_bore_127 : decode cX12_bore 127 = .ok (.iload_n 2, 1) := by decide +kernel
theorem dX12_bore_128 : decode cX12_bore 128 = .ok (.iastore, 1) := by decide +kernel
theorem dX12_bore_129 : decode cX12_bore 129 = .ok (.aload_n 0, 1) := by decide +kernel
theorem dX12_bore_130 : decode cX12_bore 130 = .ok (.getfield 22, 3) := by decide +kernel
theorem dX12_bore_133 : decode cX12_bore 133 = .ok (.iload 6, 2) := by decide +kernel
theorem dX12_bore_135 : decode cX12_bore 135 = .ok (.iload_n 3, 1) := by decide +kernel
theorem dX12_bore_136 : decode cX12_bore 136 = .ok (.iastore, 1) := by decide +kernel
theorem dX12_bore_137 : decode cX12_bore 137 = .ok (.aload_n 0, 1) := by decide +kernel
theorem dX12_bore_138 : decode cX12_bore 138 = .ok (.getfield 25, 3) := by decide +kernel
theorem dX12_bore_141 : decode cX12_bore 141 = .ok (.iload 6, 2) := by decide +kernel
theorem dX12_bore_143 : decode cX12_bore 143 = .ok (.iload 4, 2) := by decide +kernel
theorem dX12_bore_145 : decode cX12_bore 145 = .ok (.iastore, 1) := by decide +kernel
theorem dX12_bore_146 : decode cX12_bore 146 = .ok (.aload_n 0, 1) := by decide +kernel
theorem dX12_bore_147 : decode cX12_bore 147 = .ok (.getfield 28, 3) := by decide +kernel
theorem dX12_bore_150 : decode cX12_bore 150 = .ok (.iload 6, 2) := by decide +kernel
theorem dX12_bore_152 : decode cX12_bore 152 = .ok (.iload 5, 2) := by decide +kernel
theorem dX12_bore_154 : decode cX12_bore 154 = .ok (.iastore, 1) := by decide +kernel
theorem dX12_bore_155 : decode cX12_bore 155 = .ok (.aload_n 0, 1) := by decide +kernel
theorem dX12_bore_156 : decode cX12_bore 156 = .ok (.getfield 37, 3) := by decide +kernel
theorem dX12_bore_159 : decode cX12_bore 159 = .ok (.iload 6, 2) := by decide +kernel
theorem dX12_bore_161 : decode cX12_bore 161 = .ok (.iconst 1, 1) := by decide +kernel
theorem dX12_bore_162 : decode cX12_bore 162 = .ok (.bastore, 1) := by decide +kernel
theorem dX12_bore_163 : decode cX12_bore 163 = .ok (.iconst 0, 1) := by decide +kernel
theorem dX12_bore_164 : decode cX12_bore 164 = .ok (.istore 7, 2) := by decide +kernel
theorem dX12_bore_166 : decode cX12_bore 166 = .ok (.iload 7, 2) := by decide +kernel
theorem dX12_bore_168 : decode cX12_bore 168 = .ok (.iload_n 2, 1) := by decide +kernel
theorem dX12_bore_169 : decode cX12_bore 169 = .ok (.if_icmp .ge 30, 3) := by decide +kernel
theorem dX12_bore_172 : decode cX12_bore 172 = .ok (.aload_n 0, 1) := by decide +kernel
theorem dX12_bore_173 : decode cX12_bore 173 = .ok (.getfield 41, 3) := by decide +kernel
theorem dX12_bore_176 : decode cX12_bore 176 = .ok (.bipush 8, 2) := by decide +kernel
theorem dX12_bore_178 : decode cX12_bore 178 = .ok (.iload 6, 2) := by decide +kernel
theorem dX12_bore_180 : decode cX12_bore 180 = .ok (.imul, 1) := by decide +kernel
theorem dX12_bore_181 : decode cX12_bore 181 = .ok (.iload 7, 2) := by decide +kernel
theorem dX12_bore_183 : decode cX12_bore 183 = .ok (.iadd, 1) := by decide +kernel
theorem dX12_bore_184 : decode cX12_bore 184 = .ok (.aload_n 0, 1) := by decide +kernel
theorem dX12_bore_185 : decode cX12_bore 185 = .ok (.iload 6, 2) := by decide +kernel
theorem dX12_bore_187 : decode cX12_bore 187 = .ok (.iload 7, 2) := by decide +kernel
theorem dX12_bore_189 : decode cX12_bore 189 = .ok (.invokevirtual 173, 3) := by decide +kernel
theorem dX12_bore_192 : decode cX12_bore 192 = .ok (.lastore, 1) := by decide +kernel
theorem dX12_bore_193 : decode cX12_bore 193 = .ok (.iinc 7 1, 3) := by decide +kernel
theorem dX12_bore_196 : decode cX12_bore 196 = .ok (.goto (-30), 3) := by decide +kernel
theorem dX12_bore_199 : decode cX12_bore 199 = .ok (.iload 6, 2) := by decide +kernel
theorem dX12_bore_201 : decode cX12_bore 201 = .ok (.ireturn, 1) := by decide +kernel
theorem dX12_soil_0 : decode cX12_soil 0 = .ok (.aload_n 0, 1) := by decide +kernel
theorem dX12_soil_1 : decode cX12_soil 1 = .ok (.iload_n 1, 1) := by decide +kernel
theorem dX12_soil_2 : decode cX12_soil 2 = .ok (.invokevirtual 177, 3) := by decide +kernel
theorem dX12_soil_5 : decode cX12_soil 5 = .ok (.ifCond .ne 9, 3) := by decide +kernel
theorem dX12_soil_8 : decode cX12_soil 8 = .ok (.aload_n 0, 1) := by decide +kernel
theorem dX12_soil_9 : decode cX12_soil 9 = .ok (.iconst (-1), 1) := by decide +kernel
theorem dX12_soil_10 : decode cX12_soil 10 = .ok (.invokevirtual 150, 3) := by decide +kernel
theorem dX12_soil_13 : decode cX12_soil 13 = .ok (.ireturn, 1) := by decide +kernel
theorem dX12_soil_14 : decode cX12_soil 14 = .ok (.iload_n 2, 1) := by decide +kernel
theorem dX12_soil_15 : decode cX12_soil 15 = .ok (.ifCond .lt 7, 3) := by decide +kernel
theorem dX12_soil_18 : decode cX12_soil 18 = .ok (.iload_n 3, 1) := by decide +kernel
theorem dX12_soil_19 : decode cX12_soil 19 = .ok (.ifCond .ge 10, 3) := by decide +kernel
theorem dX12_soil_22 : decode cX12_soil 22 = .ok (.aload_n 0, 1) := by decide +kernel
theorem dX12_soil_23 : decode cX12_soil 23 = .ok (.bipush (-4), 2) := by decide +kernel
theorem dX12_soil_25 : decode cX12_soil 25 = .ok (.invokevirtual 150, 3) := by decide +kernel
theorem dX12_soil_28 : decode cX12_soil 28 = .ok (.ireturn, 1) := by decide +kernel
theorem dX12_soil_29 : decode cX12_soil 29 = .ok (.iload_n 2, 1) := by decide +kernel
theorem dX12_soil_30 : decode cX12_soil 30 = .ok (.sipush 999, 3) := by decide +kernel
theorem dX12_soil_33 : decode cX12_soil 33 = .ok (.if_icmp .gt 9, 3) := by decide +kernel
theorem dX12_soil_36 : decode cX12_soil 36 = .ok (.iload_n 3, 1) := by decide +kernel
theorem dX12_soil_37 : decode cX12_soil 37 = .ok (.bipush 100, 2) := by decide +kernel
theorem dX12_soil_39 : decode cX12_soil 39 = .ok (.if_icmp .le 10, 3) := by decide +kernel
theorem dX12_soil_42 : decode cX12_soil 42 = .ok (.aload_n 0, 1) := by decide +kernel
theorem dX12_soil_43 : decode cX12_soil 43 = .ok (.bipush (-6), 2) := by decide +kernel
theorem dX12_soil_45 : decode cX12_soil 45 = .ok (.invokevirtual 150, 3) := by decide +kernel
theorem dX12_soil_48 : decode cX12_soil 48 = .ok (.ireturn, 1) := by decide +kernel
theorem dX12_soil_49 : decode cX12_soil 49 = .ok (.aload_n 0, 1) := by decide +kernel
theorem dX12_soil_50 : decode cX12_soil 50 = .ok (.getfield 31, 3) := by decide +kernel
theorem dX12_soil_53 : decode cX12_soil 53 = .ok (.iload_n 1, 1) := by decide +kernel
theorem dX12_soil_54 : decode cX12_soil 54 = .ok (.iaload, 1) := by decide +kernel
theorem dX12_soil_55 : decode cX12_soil 55 = .ok (.istore 4, 2) := by decide +kernel
theorem dX12_soil_57 : decode cX12_soil 57 = .ok (.aload_n 0, 1) := by decide +kernel
theorem dX12_soil_58 : decode cX12_soil 58 = .ok (.getfield 31, 3) := by decide +kernel
theorem dX12_soil_61 : decode cX12_soil 61 = .ok (.iload_n 1, 1) := by decide +kernel
theorem dX12_soil_62 : decode cX12_soil 62 = .ok (.iload_n 2, 1) := by decide +kernel
theorem dX12_soil_63 : decode cX12_soil 63 = .ok (.iastore, 1) := by decide +kernel
theorem dX12_soil_64 : decode cX12_soil 64 = .ok (.aload_n 0, 1) := by decide +kernel
theorem dX12_soil_65 : decode cX12_soil 65 = .ok (.getfield 34, 3) := by decide +kernel
theorem dX12_soil_68 : decode cX12_soil 68 = .ok (.iload_n 1, 1) := by decide +kernel
theorem dX12_soil_69 : decode cX12_soil 69 = .ok (.iload_n 3, 1) := by decide +kernel
theorem dX12_soil_70 : decode cX12_soil 70 = .ok (.iastore, 1) := by decide +kernel
theorem dX12_soil_71 : decode cX12_soil 71 = .ok (.iload 4, 2) := by decide +kernel
theorem dX12_soil_73 : decode cX12_soil 73 = .ok (.ireturn, 1) := by decide +kernel
theorem dX12_share_0 : decode cX12_share 0 = .ok (.iload_n 1, 1) := by decide +kernel
theorem dX12_share_1 : decode cX12_share 1 = .ok (.ifCond .ge 10, 3) := by decide +kernel
theorem dX12_share_4 : decode cX12_share 4 = .ok (.aload_n 0, 1) := by decide +kernel
theorem dX12_share_5 : decode cX12_share 5 = .ok (.bipush (-4), 2) := by decide +kernel
theorem dX12_share_7 : decode cX12_share 7 = .ok (.invokevirtual 150, 3) := by decide +kernel
theorem dX12_share_10 : decode cX12_share 10 = .ok (.ireturn, 1) := by decide +kernel
theorem dX12_share_11 : decode cX12_share 11 = .ok (.iload_n 1, 1) := by decide +kernel
theorem dX12_share_12 : decode cX12_share 12 = .ok (.sipush 999, 3) := by decide +kernel
theorem dX12_share_15 : decode cX12_share 15 = .ok (.if_icmp .le 10, 3) := by decide +kernel
theorem dX12_share_18 : decode cX12_share 18 = .ok (.aload_n 0, 1) := by decide +kernel
theorem dX12_share_19 : decode cX12_share 19 = .ok (.bipush (-6), 2) := by decide +kernel
theorem dX12_share_21 : decode cX12_share 21 = .ok (.invokevirtual 150, 3) := by decide +kernel
theorem dX12_share_24 : decode cX12_share 24 = .ok (.ireturn, 1) := by decide +kernel
theorem dX12_share_25 : decode cX12_share 25 = .ok (.aload_n 0, 1) := by decide +kernel
theorem dX12_share_26 : decode cX12_share 26 = .ok (.getfield 181, 3) := by decide +kernel
theorem dX12_share_29 : decode cX12_share 29 = .ok (.istore_n 2, 1) := by decide +kernel
theorem dX12_share_30 : decode cX12_share 30 = .ok (.aload_n 0, 1) := by decide +kernel
theorem dX12_share_31 : decode cX12_share 31 = .ok (.iload_n 1, 1) := by decide +kernel
theorem dX12_share_32 : decode cX12_share 32 = .ok (.putfield 181, 3) := by decide +kernel
theorem dX12_share_35 : decode cX12_share 35 = .ok (.iload_n 2, 1) := by decide +kernel
theorem dX12_share_36 : decode cX12_share 36 = .ok (.ireturn, 1) := by decide +kernel
theorem dX12_open_0 : decode cX12_open 0 = .ok (.aload_n 0, 1) := by decide +kernel
theorem dX12_open_1 : decode cX12_open 1 = .ok (.iload_n 1, 1) := by decide +kernel
theorem dX12_open_2 : decode cX12_open 2 = .ok (.invokevirtual 177, 3) := by decide +kernel
theorem dX12_open_5 : decode cX12_open 5 = .ok (.ifCond .ne 9, 3) := by decide +kernel
theorem dX12_open_8 : decode cX12_open 8 = .ok (.aload_n 0, 1) := by decide +kernel
theorem dX12_open_9 : decode cX12_open 9 = .ok (.iconst (-1), 1) := by decide +kernel
theorem dX12_open_10 : decode cX12_open 10 = .ok (.invokevirtual 150, 3) := by decide +kernel
theorem dX12_open_13 : decode cX12_open 13 = .ok (.ireturn, 1) := by decide +kernel
theorem dX12_open_14 : decode cX12_open 14 = .ok (.aload_n 0, 1) := by decide +kernel
theorem dX12_open_15 : decode cX12_open 15 = .ok (.getfield 37, 3) := by decide +kernel
theorem dX12_open_18 : decode cX12_open 18 = .ok (.iload_n 1, 1) := by decide +kernel
theorem dX12_open_19 : decode cX12_open 19 = .ok (.baload, 1) := by decide +kernel
theorem dX12_open_20 : decode cX12_open 20 = .ok (.iload_n 2, 1) := by decide +kernel
theorem dX12_open_21 : decode cX12_open 21 = .ok (.if_icmp .ne 5, 3) := by decide +kernel
theorem dX12_open_24 : decode cX12_open 24 = .ok (.iconst 0, 1) := by decide +kernel
theorem dX12_open_25 : decode cX12_open 25 = .ok (.ireturn, 1) := by decide +kernel
theorem dX12_open_26 : decode cX12_open 26 = .ok (.aload_n 0, 1) := by decide +kernel
theorem dX12_open_27 : decode cX12_open 27 = .ok (.getfield 37, 3) := by decide +kernel
theorem dX12_open_30 : decode cX12_open 30 = .ok (.iload_n 1, 1) := by decide +kernel
theorem dX12_open_31 : decode cX12_open 31 = .ok (.iload_n 2, 1) := by decide +kernel
theorem dX12_open_32 : decode cX12_open 32 = .ok (.bastore, 1) := by decide +kernel
theorem dX12_open_33 : decode cX12_open 33 = .ok (.iconst 1, 1) := by decide +kernel
theorem dX12_open_34 : decode cX12_open 34 = .ok (.ireturn, 1) := by decide +kernel
theorem dX12_isRing_0 : decode cX12_isRing 0 = .ok (.aload_n 0, 1) := by decide +kernel
theorem dX12_isRing_1 : decode cX12_isRing 1 = .ok (.iload_n 1, 1) := by decide +kernel
theorem dX12_isRing_2 : decode cX12_isRing 2 = .ok (.invokevirtual 177, 3) := by decide +kernel
theorem dX12_isRing_5 : decode cX12_isRing 5 = .ok (.ifCond .eq 25, 3) := by decide +kernel
theorem dX12_isRing_8 : decode cX12_isRing 8 = .ok (.iload_n 2, 1) := by decide +kernel
theorem dX12_isRing_9 : decode cX12_isRing 9 = .ok (.i2l, 1) := by decide +kernel
theorem dX12_isRing_10 : decode cX12_isRing 10 = .ok (.lconst 0, 1) := by decide +kernel
theorem dX12_isRing_11 : decode cX12_isRing 11 = .ok (.aload_n 0, 1) := by decide +kernel
theorem dX12_isRing_12 : decode cX12_isRing 12 = .ok (.getfield 19, 3) := by decide +kernel
theorem dX12_isRing_15 : decode cX12_isRing 15 = .ok (.iload_n 1, 1) := by decide +kernel
theorem dX12_isRing_16 : decode cX12_isRing 16 = .ok (.iaload, 1) := by decide +kernel
theorem dX12_isRing_17 : decode cX12_isRing 17 = .ok (.iconst 1, 1) := by decide +kernel
theorem dX12_isRing_18 : decode cX12_isRing 18 = .ok (.isub, 1) := by decide +kernel
theorem dX12_isRing_19 : decode cX12_isRing 19 = .ok (.i2l, 1) := by decide +kernel
theorem dX12_isRing_20 : decode cX12_isRing 20 = .ok (.invokestatic 157, 3) := by decide +kernel
theorem dX12_isRing_23 : decode cX12_isRing 23 = .ok (.ifCond .eq 7, 3) := by decide +kernel
theorem dX12_isRing_26 : decode cX12_isRing 26 = .ok (.iconst 1, 1) := by decide +kernel
theorem dX12_isRing_27 : decode cX12_isRing 27 = .ok (.goto 4, 3) := by decide +kernel
theorem dX12_isRing_30 : decode cX12_isRing 30 = .ok (.iconst 0, 1) := by decide +kernel
theorem dX12_isRing_31 : decode cX12_isRing 31 = .ok (.ireturn, 1) := by decide +kernel
theorem dX12_heat_0 : decode cX12_heat 0 = .ok (.aload_n 0, 1) := by decide +kernel
theorem dX12_heat_1 : decode cX12_heat 1 = .ok (.iload_n 1, 1) := by decide +kernel
theorem dX12_heat_2 : decode cX12_heat 2 = .ok (.iload_n 2, 1) := by decide +kernel
theorem dX12_heat_3 : decode cX12_heat 3 = .ok (.invokevirtual 184, 3) := by decide +kernel
theorem dX12_heat_6 : decode cX12_heat 6 = .ok (.ifCond .eq 17, 3) := by decide +kernel
theorem dX12_heat_9 : decode cX12_heat 9 = .ok (.aload_n 0, 1) := by decide +kernel
theorem dX12_heat_10 : decode cX12_heat 10 = .ok (.getfield 41, 3) := by decide +kernel
theorem dX12_heat_13 : decode cX12_heat 13 = .ok (.bipush 8, 2) := by decide +kernel
theorem dX12_heat_15 : decode cX12_heat 15 = .ok (.iload_n 1, 1) := by decide +kernel
theorem dX12_heat_16 : decode cX12_heat 16 = .ok (.imul, 1) := by decide +kernel
theorem dX12_heat_17 : decode cX12_heat 17 = .ok (.iload_n 2, 1) := by decide +kernel
theorem dX12_heat_18 : decode cX12_heat 18 = .ok (.iadd, 1) := by decide +kernel
theorem dX12_heat_19 : decode cX12_heat 19 = .ok (.laload, 1) := by decide +kernel
theorem dX12_heat_20 : decode cX12_heat 20 = .ok (.goto 8, 3) := by decide +kernel
theorem dX12_heat_23 : decode cX12_heat 23 = .ok (.aload_n 0, 1) := by decide +kernel
theorem dX12_heat_24 : decode cX12_heat 24 = .ok (.iconst (-1), 1) := by decide +kernel
theorem dX12_heat_25 : decode cX12_heat 25 = .ok (.invokevirtual 188, 3) := by decide +kernel
theorem dX12_heat_28 : decode cX12_heat 28 = .ok (.lreturn, 1) := by decide +kernel
theorem dX12_warmth_0 : decode cX12_warmth 0 = .ok (.aload_n 0, 1) := by decide +kernel
theorem dX12_warmth_1 : decode cX12_warmth 1 = .ok (.iload_n 1, 1) := by decide +kernel
theorem dX12_warmth_2 : decode cX12_warmth 2 = .ok (.iload_n 2, 1) := by decide +kernel
theorem dX12_warmth_3 : decode cX12_warmth 3 = .ok (.invokevirtual 184, 3) := by decide +kernel
theorem dX12_warmth_6 : decode cX12_warmth 6 = .ok (.ifCond .eq 12, 3) := by decide +kernel
theorem dX12_warmth_9 : decode cX12_warmth 9 = .ok (.aload_n 0, 1) := by decide +kernel
theorem dX12_warmth_10 : decode cX12_warmth 10 = .ok (.iload_n 1, 1) := by decide +kernel
theorem dX12_warmth_11 : decode cX12_warmth 11 = .ok (.iload_n 2, 1) := by decide +kernel
theorem dX12_warmth_12 : decode cX12_warmth 12 = .ok (.invokevirtual 192, 3) := by decide +kernel
theorem dX12_warmth_15 : decode cX12_warmth 15 = .ok (.goto 8, 3) := by decide +kernel
theorem dX12_warmth_18 : decode cX12_warmth 18 = .ok (.aload_n 0, 1) := by decide +kernel
theorem dX12_warmth_19 : decode cX12_warmth 19 = .ok (.iconst (-1), 1) := by decide +kernel
theorem dX12_warmth_20 : decode cX12_warmth 20 = .ok (.invokevirtual 188, 3) := by decide +kernel
theorem dX12_warmth_23 : decode cX12_warmth 23 = .ok (.lreturn, 1) := by decide +kernel
theorem dX12_frozen_0 : decode cX12_frozen 0 = .ok (.aload_n 0, 1) := by decide +kernel
theorem dX12_frozen_1 : decode cX12_frozen 1 = .ok (.iload_n 1, 1) := by decide +kernel
theorem dX12_frozen_2 : decode cX12_frozen 2 = .ok (.invokevirtual 177, 3) := by decide +kernel
theorem dX12_frozen_5 : decode cX12_frozen 5 = .ok (.ifCond .ne 11, 3) := by decide +kernel
theorem dX12_frozen_8 : decode cX12_frozen 8 = .ok (.aload_n 0, 1) := by decide +kernel
theorem dX12_frozen_9 : decode cX12_frozen 9 = .ok (.iconst (-1), 1) := by decide +kernel
theorem dX12_frozen_10 : decode cX12_frozen 10 = .ok (.invokevirtual 150, 3) := by decide +kernel
theorem dX12_frozen_13 : decode cX12_frozen 13 = .ok (.goto 19, 3) := by decide +kernel
theorem dX12_frozen_16 : decode cX12_frozen 16 = .ok (.aload_n 0, 1) := by decide +kernel
theorem dX12_frozen_17 : decode cX12_frozen 17 = .ok (.iload_n 1, 1) := by decide +kernel
theorem dX12_frozen_18 : decode cX12_frozen 18 = .ok (.iconst 0, 1) := by decide +kernel
theorem dX12_frozen_19 : decode cX12_frozen 19 = .ok (.invokevirtual 192, 3) := by decide +kernel
theorem dX12_frozen_22 : decode cX12_frozen 22 = .ok (.lconst 0, 1) := by decide +kernel
theorem dX12_frozen_23 : decode cX12_frozen 23 = .ok (.lcmp, 1) := by decide +kernel
theorem dX12_frozen_24 : decode cX12_frozen 24 = .ok (.ifCond .le 7, 3) := by decide +kernel
theorem dX12_frozen_27 : decode cX12_frozen 27 = .ok (.iconst 0, 1) := by decide +kernel
theorem dX12_frozen_28 : decode cX12_frozen 28 = .ok (.goto 4, 3) := by decide +kernel
theorem dX12_frozen_31 : decode cX12_frozen 31 = .ok (.iconst 1, 1) := by decide +kernel
theorem dX12_frozen_32 : decode cX12_frozen 32 = .ok (.ireturn, 1) := by decide +kernel
theorem dX12_house_0 : decode cX12_house 0 = .ok (.iload_n 1, 1) := by decide +kernel
theorem dX12_house_1 : decode cX12_house 1 = .ok (.ifCond .lt 11, 3) := by decide +kernel
theorem dX12_house_4 : decode cX12_house 4 = .ok (.iload_n 2, 1) := by decide +kernel
theorem dX12_house_5 : decode cX12_house 5 = .ok (.ifCond .lt 7, 3) := by decide +kernel
theorem dX12_house_8 : decode cX12_house 8 = .ok (.iload_n 3, 1) := by decide +kernel
theorem dX12_house_9 : decode cX12_house 9 = .ok (.ifCond .ge 10, 3) := by decide +kernel
theorem dX12_house_12 : decode cX12_house 12 = .ok (.aload_n 0, 1) := by decide +kernel
theorem dX12_house_13 : decode cX12_house 13 = .ok (.bipush (-4), 2) := by decide +kernel
theorem dX12_house_15 : decode cX12_house 15 = .ok (.invokevirtual 150, 3) := by decide +kernel
theorem dX12_house_18 : decode cX12_house 18 = .ok (.ireturn, 1) := by decide +kernel
theorem dX12_house_19 : decode cX12_house 19 = .ok (.iload_n 1, 1) := by decide +kernel
theorem dX12_house_20 : decode cX12_house 20 = .ok (.sipush 9999, 3) := by decide +kernel
theorem dX12_house_23 : decode cX12_house 23 = .ok (.if_icmp .gt 25, 3) := by decide +kernel
theorem dX12_house_26 : decode cX12_house 26 = .ok (.iload_n 2, 1) := by decide +kernel
theorem dX12_house_27 : decode cX12_house 27 = .ok (.sipush 999, 3) := by decide +kernel
theorem dX12_house_30 : decode cX12_house 30 = .ok (.if_icmp .gt 18, 3) := by decide +kernel
theorem dX12_house_33 : decode cX12_house 33 = .ok (.iload_n 3, 1) := by decide +kernel
theorem dX12_house_34 : decode cX12_house 34 = .ok (.ldc 195, 2) := by decide +kernel
theorem dX12_house_36 : decode cX12_house 36 = .ok (.if_icmp .gt 12, 3) := by decide +kernel
theorem dX12_house_39 : decode cX12_house 39 = .ok (.aload_n 0, 1) := by decide +kernel
theorem dX12_house_40 : decode cX12_house 40 = .ok (.getfield 196, 3) := by decide +kernel
theorem dX12_house_43 : decode cX12_house 43 = .ok (.bipush 20, 2) := by decide +kernel
theorem dX12_house_45 : decode cX12_house 45 = .ok (.if_icmp .ne 10, 3) := by decide +kernel
theorem dX12_house_48 : decode cX12_house 48 = .ok (.aload_n 0, 1) := by decide +kernel
theorem dX12_house_49 : decode cX12_house 49 = .ok (.bipush (-6), 2) := by decide +kernel
theorem dX12_house_51 : decode cX12_house 51 = .ok (.invokevirtual 150, 3) := by decide +kernel
theorem dX12_house_54 : decode cX12_house 54 = .ok (.ireturn, 1) := by decide +kernel
theorem dX12_house_55 : decode cX12_house 55 = .ok (.aload_n 0, 1) := by decide +kernel
theorem dX12_house_56 : decode cX12_house 56 = .ok (.getfield 51, 3) := by decide +kernel
theorem dX12_house_59 : decode cX12_house 59 = .ok (.aload_n 0, 1) := by decide +kernel
theorem dX12_house_60 : decode cX12_house 60 = .ok (.getfield 196, 3) := by decide +kernel
theorem dX12_house_63 : decode cX12_house 63 = .ok (.iload_n 1, 1) := by decide +kernel
theorem dX12_house_64 : decode cX12_house 64 = .ok (.iastore, 1) := by decide +kernel
theorem dX12_house_65 : decode cX12_house 65 = .ok (.aload_n 0, 1) := by decide +kernel
theorem dX12_house_66 : decode cX12_house 66 = .ok (.getfield 54, 3) := by decide +kernel
theorem dX12_house_69 : decode cX12_house 69 = .ok (.aload_n 0, 1) := by decide +kernel
theorem dX12_house_70 : decode cX12_house 70 = .ok (.getfield 196, 3) := by decide +kernel
theorem dX12_house_73 : decode cX12_house 73 = .ok (.iload_n 2, 1) := by decide +kernel
theorem dX12_house_74 : decode cX12_house 74 = .ok (.iastore, 1) := by decide +kernel
theorem dX12_house_75 : decode cX12_house 75 = .ok (.aload_n 0, 1) := by decide +kernel
theorem dX12_house_76 : decode cX12_house 76 = .ok (.getfield 57, 3) := by decide +kernel
theorem dX12_house_79 : decode cX12_house 79 = .ok (.aload_n 0, 1) := by decide +kernel
theorem dX12_house_80 : decode cX12_house 80 = .ok (.getfield 196, 3) := by decide +kernel
theorem dX12_house_83 : decode cX12_house 83 = .ok (.iload_n 3, 1) := by decide +kernel
theorem dX12_house_84 : decode cX12_house 84 = .ok (.iastore, 1) := by decide +kernel
theorem dX12_house_85 : decode cX12_house 85 = .ok (.aload_n 0, 1) := by decide +kernel
theorem dX12_house_86 : decode cX12_house 86 = .ok (.dup, 1) := by decide +kernel
theorem dX12_house_87 : decode cX12_house 87 = .ok (.getfield 196, 3) := by decide +kernel
theorem dX12_house_90 : decode cX12_house 90 = .ok (.iconst 1, 1) := by decide +kernel
theorem dX12_house_91 : decode cX12_house 91 = .ok (.iadd, 1) := by decide +kernel
theorem dX12_house_92 : decode cX12_house 92 = .ok (.putfield 196, 3) := by decide +kernel
theorem dX12_house_95 : decode cX12_house 95 = .ok (.aload_n 0, 1) := by decide +kernel
theorem dX12_house_96 : decode cX12_house 96 = .ok (.getfield 196, 3) := by decide +kernel
theorem dX12_house_99 : decode cX12_house 99 = .ok (.iconst 1, 1) := by decide +kernel
theorem dX12_house_100 : decode cX12_house 100 = .ok (.isub, 1) := by decide +kernel
theorem dX12_house_101 : decode cX12_house 101 = .ok (.ireturn, 1) := by decide +kernel
theorem dX12_join_0 : decode cX12_join 0 = .ok (.iload_n 1, 1) := by decide +kernel
theorem dX12_join_1 : decode cX12_join 1 = .ok (.i2l, 1) := by decide +kernel
theorem dX12_join_2 : decode cX12_join 2 = .ok (.lconst 0, 1) := by decide +kernel
theorem dX12_join_3 : decode cX12_join 3 = .ok (.aload_n 0, 1) := by decide +kernel
theorem dX12_join_4 : decode cX12_join 4 = .ok (.getfield 196, 3) := by decide +kernel
theorem dX12_join_7 : decode cX12_join 7 = .ok (.iconst 1, 1) := by decide +kernel
theorem dX12_join_8 : decode cX12_join 8 = .ok (.isub, 1) := by decide +kernel
theorem dX12_join_9 : decode cX12_join 9 = .ok (.i2l, 1) := by decide +kernel
theorem dX12_join_10 : decode cX12_join 10 = .ok (.invokestatic 157, 3) := by decide +kernel
theorem dX12_join_13 : decode cX12_join 13 = .ok (.ifCond .ne 9, 3) := by decide +kernel
theorem dX12_join_16 : decode cX12_join 16 = .ok (.aload_n 0, 1) := by decide +kernel
theorem dX12_join_17 : decode cX12_join 17 = .ok (.iconst (-1), 1) := by decide +kernel
theorem dX12_join_18 : decode cX12_join 18 = .ok (.invokevirtual 150, 3) := by decide +kernel
theorem dX12_join_21 : decode cX12_join 21 = .ok (.ireturn, 1) := by decide +kernel
theorem dX12_join_22 : decode cX12_join 22 = .ok (.aload_n 0, 1) := by decide +kernel
theorem dX12_join_23 : decode cX12_join 23 = .ok (.getfield 60, 3) := by decide +kernel
theorem dX12_join_26 : decode cX12_join 26 = .ok (.iload_n 1, 1) := by decide +kernel
theorem dX12_join_27 : decode cX12_join 27 = .ok (.iaload, 1) := by decide +kernel
theorem dX12_join_28 : decode cX12_join 28 = .ok (.ifCond .lt 10, 3) := by decide +kernel
theorem dX12_join_31 : decode cX12_join 31 = .ok (.aload_n 0, 1) := by decide +kernel
theorem dX12_join_32 : decode cX12_join 32 = .ok (.bipush (-3), 2) := by decide +kernel
theorem dX12_join_34 : decode cX12_join 34 = .ok (.invokevirtual 150, 3) := by decide +kernel
theorem dX12_join_37 : decode cX12_join 37 = .ok (.ireturn, 1) := by decide +kernel
theorem dX12_join_38 : decode cX12_join 38 = .ok (.iload_n 2, 1) := by decide +kernel
theorem dX12_join_39 : decode cX12_join 39 = .ok (.aload_n 0, 1) := by decide +kernel
theorem dX12_join_40 : decode cX12_join 40 = .ok (.getfield 167, 3) := by decide +kernel
theorem dX12_join_43 : decode cX12_join 43 = .ok (.bipush 24, 2) := by decide +kernel
theorem dX12_join_45 : decode cX12_join 45 = .ok (.idiv, 1) := by decide +kernel
theorem dX12_join_46 : decode cX12_join 46 = .ok (.if_icmp .ge 10, 3) := by decide +kernel
theorem dX12_join_49 : decode cX12_join 49 = .ok (.aload_n 0, 1) := by decide +kernel
theorem dX12_join_50 : decode cX12_join 50 = .ok (.bipush (-4), 2) := by decide +kernel
theorem dX12_join_52 : decode cX12_join 52 = .ok (.invokevirtual 150, 3) := by decide +kernel
theorem dX12_join_55 : decode cX12_join 55 = .ok (.ireturn, 1) := by decide +kernel
theorem dX12_join_56 : decode cX12_join 56 = .ok (.iload_n 2, 1) := by decide +kernel
theorem dX12_join_57 : decode cX12_join 57 = .ok (.sipush 333, 3) := by decide +kernel
theorem dX12_join_60 : decode cX12_join 60 = .ok (.if_icmp .le 10, 3) := by decide +kernel
theorem dX12_join_63 : decode cX12_join 63 = .ok (.aload_n 0, 1) := by decide +kernel
theorem dX12_join_64 : decode cX12_join 64 = .ok (.bipush (-6), 2) := by decide +kernel
theorem dX12_join_66 : decode cX12_join 66 = .ok (.invokevirtual 150, 3) := by decide +kernel
theorem dX12_join_69 : decode cX12_join 69 = .ok (.ireturn, 1) := by decide +kernel
theorem dX12_join_70 : decode cX12_join 70 = .ok (.aload_n 0, 1) := by decide +kernel
theorem dX12_join_71 : decode cX12_join 71 = .ok (.getfield 60, 3) := by decide +kernel
theorem dX12_join_74 : decode cX12_join 74 = .ok (.iload_n 1, 1) := by decide +kernel
theorem dX12_join_75 : decode cX12_join 75 = .ok (.iload_n 2, 1) := by decide +kernel
theorem dX12_join_76 : decode cX12_join 76 = .ok (.iastore, 1) := by decide +kernel
theorem dX12_join_77 : decode cX12_join 77 = .ok (.iconst 1, 1) := by decide +kernel
theorem dX12_join_78 : decode cX12_join 78 = .ok (.ireturn, 1) := by decide +kernel
theorem dX12_cold_0 : decode cX12_cold 0 = .ok (.iload_n 1, 1) := by decide +kernel
theorem dX12_cold_1 : decode cX12_cold 1 = .ok (.ifCond .lt 9, 3) := by decide +kernel
theorem dX12_cold_4 : decode cX12_cold 4 = .ok (.iload_n 1, 1) := by decide +kernel
theorem dX12_cold_5 : decode cX12_cold 5 = .ok (.bipush 11, 2) := by decide +kernel
theorem dX12_cold_7 : decode cX12_cold 7 = .ok (.if_icmp .le 22, 3) := by decide +kernel
theorem dX12_cold_10 : decode cX12_cold 10 = .ok (.ldc 199, 2) := by decide +kernel
theorem dX12_cold_12 : decode cX12_cold 12 = .ok (.aload_n 0, 1) := by decide +kernel
theorem dX12_cold_13 : decode cX12_cold 13 = .ok (.iload_n 1, 1) := by decide +kernel
theorem dX12_cold_14 : decode cX12_cold 14 = .ok (.ifCond .ge 8, 3) := by decide +kernel
theorem dX12_cold_17 : decode cX12_cold 17 = .ok (.bipush (-4), 2) := by decide +kernel
theorem dX12_cold_19 : decode cX12_cold 19 = .ok (.goto 5, 3) := by decide +kernel
theorem dX12_cold_22 : decode cX12_cold 22 = .ok (.bipush (-6), 2) := by decide +kernel
theorem dX12_cold_24 : decode cX12_cold 24 = .ok (.invokevirtual 150, 3) := by decide +kernel
theorem dX12_cold_27 : decode cX12_cold 27 = .ok (.isub, 1) := by decide +kernel
theorem dX12_cold_28 : decode cX12_cold 28 = .ok (.ireturn, 1) := by decide +kernel
theorem dX12_cold_29 : decode cX12_cold 29 = .ok (.iload_n 2, 1) := by decide +kernel
theorem dX12_cold_30 : decode cX12_cold 30 = .ok (.bipush (-40), 2) := by decide +kernel
theorem dX12_cold_32 : decode cX12_cold 32 = .ok (.if_icmp .lt 9, 3) := by decide +kernel
theorem dX12_cold_35 : decode cX12_cold 35 = .ok (.iload_n 2, 1) := by decide +kernel
theorem dX12_cold_36 : decode cX12_cold 36 = .ok (.bipush 40, 2) := by decide +kernel
theorem dX12_cold_38 : decode cX12_cold 38 = .ok (.if_icmp .le 24, 3) := by decide +kernel
theorem dX12_cold_41 : decode cX12_cold 41 = .ok (.ldc 199, 2) := by decide +kernel
theorem dX12_cold_43 : decode cX12_cold 43 = .ok (.aload_n 0, 1) := by decide +kernel
theorem dX12_cold_44 : decode cX12_cold 44 = .ok (.iload_n 2, 1) := by decide +kernel
theorem dX12_cold_45 : decode cX12_cold 45 = .ok (.bipush (-40), 2) := by decide +kernel
theorem dX12_cold_47 : decode cX12_cold 47 = .ok (.if_icmp .ge 8, 3) := by decide +kernel
theorem dX12_cold_50 : decode cX12_cold 50 = .ok (.bipush (-4), 2) := by decide +kernel
theorem dX12_cold_52 : decode cX12_cold 52 = .ok (.goto 5, 3) := by decide +kernel
theorem dX12_cold_55 : decode cX12_cold 55 = .ok (.bipush (-6), 2) := by decide +kernel
theorem dX12_cold_57 : decode cX12_cold 57 = .ok (.invokevirtual 150, 3) := by decide +kernel
theorem dX12_cold_60 : decode cX12_cold 60 = .ok (.isub, 1) := by decide +kernel
theorem dX12_cold_61 : decode cX12_cold 61 = .ok (.ireturn, 1) := by decide +kernel
theorem dX12_cold_62 : decode cX12_cold 62 = .ok (.aload_n 0, 1) := by decide +kernel
theorem dX12_cold_63 : decode cX12_cold 63 = .ok (.getfield 63, 3) := by decide +kernel
theorem dX12_cold_66 : decode cX12_cold 66 = .ok (.iload_n 1, 1) := by decide +kernel
theorem dX12_cold_67 : decode cX12_cold 67 = .ok (.iaload, 1) := by decide +kernel
theorem dX12_cold_68 : decode cX12_cold 68 = .ok (.istore_n 3, 1) := by decide +kernel
theorem dX12_cold_69 : decode cX12_cold 69 = .ok (.aload_n 0, 1) := by decide +kernel
theorem dX12_cold_70 : decode cX12_cold 70 = .ok (.getfield 63, 3) := by decide +kernel
theorem dX12_cold_73 : decode cX12_cold 73 = .ok (.iload_n 1, 1) := by decide +kernel
theorem dX12_cold_74 : decode cX12_cold 74 = .ok (.iload_n 2, 1) := by decide +kernel
theorem dX12_cold_75 : decode cX12_cold 75 = .ok (.iastore, 1) := by decide +kernel
theorem dX12_cold_76 : decode cX12_cold 76 = .ok (.iload_n 3, 1) := by decide +kernel
theorem dX12_cold_77 : decode cX12_cold 77 = .ok (.ireturn, 1) := by decide +kernel
theorem dX12_isJoined_0 : decode cX12_isJoined 0 = .ok (.aload_n 0, 1) := by decide +kernel
theorem dX12_isJoined_1 : decode cX12_isJoined 1 = .ok (.getfield 60, 3) := by decide +kernel
theorem dX12_isJoined_4 : decode cX12_isJoined 4 = .ok (.iload_n 1, 1) := by decide +kernel
theorem dX12_isJoined_5 : decode cX12_isJoined 5 = .ok (.iaload, 1) := by decide +kernel
theorem dX12_isJoined_6 : decode cX12_isJoined 6 = .ok (.ifCond .lt 17, 3) := by decide +kernel
theorem dX12_isJoined_9 : decode cX12_isJoined 9 = .ok (.aload_n 0, 1) := by decide +kernel
theorem dX12_isJoined_10 : decode cX12_isJoined 10 = .ok (.getfield 60, 3) := by decide +kernel
theorem dX12_isJoined_13 : decode cX12_isJoined 13 = .ok (.iload_n 1, 1) := by decide +kernel
theorem dX12_isJoined_14 : decode cX12_isJoined 14 = .ok (.iaload, 1) := by decide +kernel
theorem dX12_isJoined_15 : decode cX12_isJoined 15 = .ok (.iload_n 2, 1) := by decide +kernel
theorem dX12_isJoined_16 : decode cX12_isJoined 16 = .ok (.if_icmp .gt 7, 3) := by decide +kernel
theorem dX12_isJoined_19 : decode cX12_isJoined 19 = .ok (.iconst 1, 1) := by decide +kernel
theorem dX12_isJoined_20 : decode cX12_isJoined 20 = .ok (.goto 4, 3) := by decide +kernel
theorem dX12_isJoined_23 : decode cX12_isJoined 23 = .ok (.iconst 0, 1) := by decide +kernel
theorem dX12_isJoined_24 : decode cX12_isJoined 24 = .ok (.ireturn, 1) := by decide +kernel
theorem dX12_needOf_0 : decode cX12_needOf 0 = .ok (.lconst 0, 1) := by decide +kernel
theorem dX12_needOf_1 : decode cX12_needOf 1 = .ok (.lstore_n 2, 1) := by decide +kernel
theorem dX12_needOf_2 : decode cX12_needOf 2 = .ok (.iload_n 1, 1) := by decide +kernel
theorem dX12_needOf_3 : decode cX12_needOf 3 = .ok (.bipush 24, 2) := by decide +kernel
theorem dX12_needOf_5 : decode cX12_needOf 5 = .ok (.idiv, 1) := by decide +kernel
theorem dX12_needOf_6 : decode cX12_needOf 6 = .ok (.istore 4, 2) := by decide +kernel
theorem dX12_needOf_8 : decode cX12_needOf 8 = .ok (.bipush 15, 2) := by decide +kernel
theorem dX12_needOf_10 : decode cX12_needOf 10 = .ok (.aload_n 0, 1) := by decide +kernel
theorem dX12_needOf_11 : decode cX12_needOf 11 = .ok (.getfield 63, 3) := by decide +kernel
theorem dX12_needOf_14 : decode cX12_needOf 14 = .ok (.iload 4, 2) := by decide +kernel
theorem dX12_needOf_16 : decode cX12_needOf 16 = .ok (.bipush 12, 2) := by decide +kernel
theorem dX12_needOf_18 : decode cX12_needOf 18 = .ok (.irem, 1) := by decide +kernel
theorem dX12_needOf_19 : decode cX12_needOf 19 = .ok (.iaload, 1) := by decide +kernel
theorem dX12_needOf_20 : decode cX12_needOf 20 = .ok (.isub, 1) := by decide +kernel
theorem dX12_needOf_21 : decode cX12_needOf 21 = .ok (.istore 5, 2) := by decide +kernel
theorem dX12_needOf_23 : decode cX12_needOf 23 = .ok (.iconst 0, 1) := by decide +kernel
theorem dX12_needOf_24 : decode cX12_needOf 24 = .ok (.istore 6, 2) := by decide +kernel
theorem dX12_needOf_26 : decode cX12_needOf 26 = .ok (.iload 6, 2) := by decide +kernel
theorem dX12_needOf_28 : decode cX12_needOf 28 = .ok (.aload_n 0, 1) := by decide +kernel
theorem dX12_needOf_29 : decode cX12_needOf 29 = .ok (.getfield 196, 3) := by decide +kernel
theorem dX12_needOf_32 : decode cX12_needOf 32 = .ok (.if_icmp .ge 84, 3) := by decide +kernel
theorem dX12_needOf_35 : decode cX12_needOf 35 = .ok (.aload_n 0, 1) := by decide +kernel
theorem dX12_needOf_36 : decode cX12_needOf 36 = .ok (.iload 6, 2) := by decide +kernel
theorem dX12_needOf_38 : decode cX12_needOf 38 = .ok (.iload 4, 2) := by decide +kernel
theorem dX12_needOf_40 : decode cX12_needOf 40 = .ok (.invokevirtual 200, 3) := by decide +kernel
theorem dX12_needOf_43 : decode cX12_needOf 43 = .ok (.ifCond .eq 67, 3) := by decide +kernel
theorem dX12_needOf_46 : decode cX12_needOf 46 = .ok (.aload_n 0, 1) := by decide +kernel
theorem dX12_needOf_47 : decode cX12_needOf 47 = .ok (.getfield 51, 3) := by decide +kernel
theorem dX12_needOf_50 : decode cX12_needOf 50 = .ok (.iload 6, 2) := by decide +kernel
theorem dX12_needOf_52 : decode cX12_needOf 52 = .ok (.iaload, 1) := by decide +kernel
theorem dX12_needOf_53 : decode cX12_needOf 53 = .ok (.i2l, 1) := by decide +kernel
theorem dX12_needOf_54 : decode cX12_needOf 54 = .ok (.aload_n 0, 1) := by decide +kernel
theorem dX12_needOf_55 : decode cX12_needOf 55 = .ok (.getfield 54, 3) := by decide +kernel
theorem dX12_needOf_58 : decode cX12_needOf 58 = .ok (.iload 6, 2) := by decide +kernel
theorem dX12_needOf_60 : decode cX12_needOf 60 = .ok (.iaload, 1) := by decide +kernel
theorem dX12_needOf_61 : decode cX12_needOf 61 = .ok (.i2l, 1) := by decide +kernel
theorem dX12_needOf_62 : decode cX12_needOf 62 = .ok (.iload 5, 2) := by decide +kernel
theorem dX12_needOf_64 : decode cX12_needOf 64 = .ok (.ifCond .ge 7, 3) := by decide +kernel
theorem dX12_needOf_67 : decode cX12_needOf 67 = .ok (.iconst 0, 1) := by decide +kernel
theorem dX12_needOf_68 : decode cX12_needOf 68 = .ok (.goto 5, 3) := by decide +kernel
theorem dX12_needOf_71 : decode cX12_needOf 71 = .ok (.iload 5, 2) := by decide +kernel
theorem dX12_needOf_73 : decode cX12_needOf 73 = .ok (.i2l, 1) := by decide +kernel
theorem dX12_needOf_74 : decode cX12_needOf 74 = .ok (.lmul, 1) := by decide +kernel
theorem dX12_needOf_75 : decode cX12_needOf 75 = .ok (.ladd, 1) := by decide +kernel
theorem dX12_needOf_76 : decode cX12_needOf 76 = .ok (.lstore 7, 2) := by decide +kernel
theorem dX12_needOf_78 : decode cX12_needOf 78 = .ok (.lload_n 2, 1) := by decide +kernel
theorem dX12_needOf_79 : decode cX12_needOf 79 = .ok (.aload_n 0, 1) := by decide +kernel
theorem dX12_needOf_80 : decode cX12_needOf 80 = .ok (.getfield 57, 3) := by decide +kernel
theorem dX12_needOf_83 : decode cX12_needOf 83 = .ok (.iload 6, 2) := by decide +kernel
theorem dX12_needOf_85 : decode cX12_needOf 85 = .ok (.iaload, 1) := by decide +kernel
theorem dX12_needOf_86 : decode cX12_needOf 86 = .ok (.iload_n 1, 1) := by decide +kernel
theorem dX12_needOf_87 : decode cX12_needOf 87 = .ok (.bipush 24, 2) := by decide +kernel
theorem dX12_needOf_89 : decode cX12_needOf 89 = .ok (.irem, 1) := by decide +kernel
theorem dX12_needOf_90 : decode cX12_needOf 90 = .ok (.ishr, 1) := by decide +kernel
theorem dX12_needOf_91 : decode cX12_needOf 91 = .ok (.iconst 1, 1) := by decide +kernel
theorem dX12_needOf_92 : decode cX12_needOf 92 = .ok (.iand, 1) := by decide +kernel
theorem dX12_needOf_93 : decode cX12_needOf 93 = .ok (.iconst 1, 1) := by decide +kernel
theorem dX12_needOf_94 : decode cX12_needOf 94 = .ok (.if_icmp .ne 8, 3) := by decide +kernel
theorem dX12_needOf_97 : decode cX12_needOf 97 = .ok (.lload 7, 2) := by decide +kernel
theorem dX12_needOf_99 : decode cX12_needOf 99 = .ok (.goto 9, 3) := by decide +kernel
theorem dX12_needOf_102 : decode cX12_needOf 102 = .ok (.lload 7, 2) := by decide +kernel
theorem dX12_needOf_104 : decode cX12_needOf 104 = .ok (.ldc2_w 203, 3) := by decide +kernel
theorem dX12_needOf_107 : decode cX12_needOf 107 = .ok (.ldiv, 1) := by decide +kernel
theorem dX12_needOf_108 : decode cX12_needOf 108 = .ok (.ladd, 1) := by decide +kernel
theorem dX12_needOf_109 : decode cX12_needOf 109 = .ok (.lstore_n 2, 1) := by decide +kernel
theorem dX12_needOf_110 : decode cX12_needOf 110 = .ok (.iinc 6 1, 3) := by decide +kernel
theorem dX12_needOf_113 : decode cX12_needOf 113 = .ok (.goto (-87), 3) := by decide +kernel
theorem dX12_needOf_116 : decode cX12_needOf 116 = .ok (.lload_n 2, 1) := by decide +kernel
theorem dX12_needOf_117 : decode cX12_needOf 117 = .ok (.lreturn, 1) := by decide +kernel
theorem dX12_need_0 : decode cX12_need 0 = .ok (.iload_n 1, 1) := by decide +kernel
theorem dX12_need_1 : decode cX12_need 1 = .ok (.ifCond .ge 12, 3) := by decide +kernel
theorem dX12_need_4 : decode cX12_need 4 = .ok (.aload_n 0, 1) := by decide +kernel
theorem dX12_need_5 : decode cX12_need 5 = .ok (.bipush (-4), 2) := by decide +kernel
theorem dX12_need_7 : decode cX12_need 7 = .ok (.invokevirtual 188, 3) := by decide +kernel
theorem dX12_need_10 : decode cX12_need 10 = .ok (.goto 24, 3) := by decide +kernel
theorem dX12_need_13 : decode cX12_need 13 = .ok (.iload_n 1, 1) := by decide +kernel
theorem dX12_need_14 : decode cX12_need 14 = .ok (.sipush 9999, 3) := by decide +kernel
theorem dX12_need_17 : decode cX12_need 17 = .ok (.if_icmp .le 12, 3) := by decide +kernel
theorem dX12_need_20 : decode cX12_need 20 = .ok (.aload_n 0, 1) := by decide +kernel
theorem dX12_need_21 : decode cX12_need 21 = .ok (.bipush (-6), 2) := by decide +kernel
theorem dX12_need_23 : decode cX12_need 23 = .ok (.invokevirtual 188, 3) := by decide +kernel
theorem dX12_need_26 : decode cX12_need 26 = .ok (.goto 8, 3) := by decide +kernel
theorem dX12_need_29 : decode cX12_need 29 = .ok (.aload_n 0, 1) := by decide +kernel
theorem dX12_need_30 : decode cX12_need 30 = .ok (.iload_n 1, 1) := by decide +kernel
theorem dX12_need_31 : decode cX12_need 31 = .ok (.invokevirtual 205, 3) := by decide +kernel
theorem dX12_need_34 : decode cX12_need 34 = .ok (.lreturn, 1) := by decide +kernel
theorem dX12_point_0 : decode cX12_point 0 = .ok (.iload_n 1, 1) := by decide +kernel
theorem dX12_point_1 : decode cX12_point 1 = .ok (.bipush (-20), 2) := by decide +kernel
theorem dX12_point_3 : decode cX12_point 3 = .ok (.if_icmp .lt 42, 3) := by decide +kernel
theorem dX12_point_6 : decode cX12_point 6 = .ok (.iload_n 2, 1) := by decide +kernel
theorem dX12_point_7 : decode cX12_point 7 = .ok (.bipush 100, 2) := by decide +kernel
theorem dX12_point_9 : decode cX12_point 9 = .ok (.if_icmp .lt 36, 3) := by decide +kernel
theorem dX12_point_12 : decode cX12_point 12 = .ok (.aload_n 0, 1) := by decide +kernel
theorem dX12_point_13 : decode cX12_point 13 = .ok (.getfield 208, 3) := by decide +kernel
theorem dX12_point_16 : decode cX12_point 16 = .ok (.ifCond .le 36, 3) := by decide +kernel
theorem dX12_point_19 : decode cX12_point 19 = .ok (.iload_n 1, 1) := by decide +kernel
theorem dX12_point_20 : decode cX12_point 20 = .ok (.aload_n 0, 1) := by decide +kernel
theorem dX12_point_21 : decode cX12_point 21 = .ok (.getfield 66, 3) := by decide +kernel
theorem dX12_point_24 : decode cX12_point 24 = .ok (.aload_n 0, 1) := by decide +kernel
theorem dX12_point_25 : decode cX12_point 25 = .ok (.getfield 208, 3) := by decide +kernel
theorem dX12_point_28 : decode cX12_point 28 = .ok (.ifCond .ne 7, 3) := by decide +kernel
theorem dX12_point_31 : decode cX12_point 31 = .ok (.iconst 0, 1) := by decide +kernel
theorem dX12_point_32 : decode cX12_point 32 = .ok (.goto 9, 3) := by decide +kernel
theorem dX12_point_35 : decode cX12_point 35 = .ok (.aload_n 0, 1) := by decide +kernel
theorem dX12_point_36 : decode cX12_point 36 = .ok (.getfield 208, 3) := by decide +kernel
theorem dX12_point_39 : decode cX12_point 39 = .ok (.iconst 1, 1) := by decide +kernel
theorem dX12_point_40 : decode cX12_point 40 = .ok (.isub, 1) := by decide +kernel
theorem dX12_point_41 : decode cX12_point 41 = .ok (.iaload, 1) := by decide +kernel
theorem dX12_point_42 : decode cX12_point 42 = .ok (.if_icmp .gt 10, 3) := by decide +kernel
theorem dX12_point_45 : decode cX12_point 45 = .ok (.aload_n 0, 1) := by decide +kernel
theorem dX12_point_46 : decode cX12_point 46 = .ok (.bipush (-4), 2) := by decide +kernel
theorem dX12_point_48 : decode cX12_point 48 = .ok (.invokevirtual 150, 3) := by decide +kernel
theorem dX12_point_51 : decode cX12_point 51 = .ok (.ireturn, 1) := by decide +kernel
theorem dX12_point_52 : decode cX12_point 52 = .ok (.iload_n 1, 1) := by decide +kernel
theorem dX12_point_53 : decode cX12_point 53 = .ok (.bipush 99, 2) := by decide +kernel
theorem dX12_point_55 : decode cX12_point 55 = .ok (.if_icmp .gt 19, 3) := by decide +kernel
theorem dX12_point_58 : decode cX12_point 58 = .ok (.iload_n 2, 1) := by decide +kernel
theorem dX12_point_59 : decode cX12_point 59 = .ok (.sipush 999, 3) := by decide +kernel
theorem dX12_point_62 : decode cX12_point 62 = .ok (.if_icmp .gt 12, 3) := by decide +kernel
theorem dX12_point_65 : decode cX12_point 65 = .ok (.aload_n 0, 1) := by decide +kernel
theorem dX12_point_66 : decode cX12_point 66 = .ok (.getfield 208, 3) := by decide +kernel
theorem dX12_point_69 : decode cX12_point 69 = .ok (.bipush 8, 2) := by decide +kernel
theorem dX12_point_71 : decode cX12_point 71 = .ok (.if_icmp .ne 10, 3) := by decide +kernel
theorem dX12_point_74 : decode cX12_point 74 = .ok (.aload_n 0, 1) := by decide +kernel
theorem dX12_point_75 : decode cX12_point 75 = .ok (.bipush (-6), 2) := by decide +kernel
theorem dX12_point_77 : decode cX12_point 77 = .ok (.invokevirtual 150, 3) := by decide +kernel
theorem dX12_point_80 : decode cX12_point 80 = .ok (.ireturn, 1) := by decide +kernel
theorem dX12_point_81 : decode cX12_point 81 = .ok (.aload_n 0, 1) := by decide +kernel
theorem dX12_point_82 : decode cX12_point 82 = .ok (.getfield 66, 3) := by decide +kernel
theorem dX12_point_85 : decode cX12_point 85 = .ok (.aload_n 0, 1) := by decide +kernel
theorem dX12_point_86 : decode cX12_point 86 = .ok (.getfield 208, 3) := by decide +kernel
theorem dX12_point_89 : decode cX12_point 89 = .ok (.iload_n 1, 1) := by decide +kernel
theorem dX12_point_90 : decode cX12_point 90 = .ok (.iastore, 1) := by decide +kernel
theorem dX12_point_91 : decode cX12_point 91 = .ok (.aload_n 0, 1) := by decide +kernel
theorem dX12_point_92 : decode cX12_point 92 = .ok (.getfield 69, 3) := by decide +kernel
theorem dX12_point_95 : decode cX12_point 95 = .ok (.aload_n 0, 1) := by decide +kernel
theorem dX12_point_96 : decode cX12_point 96 = .ok (.getfield 208, 3) := by decide +kernel
theorem dX12_point_99 : decode cX12_point 99 = .ok (.iload_n 2, 1) := by decide +kernel
theorem dX12_point_100 : decode cX12_point 100 = .ok (.iastore, 1) := by decide +kernel
theorem dX12_point_101 : decode cX12_point 101 = .ok (.aload_n 0, 1) := by decide +kernel
theorem dX12_point_102 : decode cX12_point 102 = .ok (.dup, 1) := by decide +kernel
theorem dX12_point_103 : decode cX12_point 103 = .ok (.getfield 208, 3) := by decide +kernel
theorem dX12_point_106 : decode cX12_point 106 = .ok (.iconst 1, 1) := by decide +kernel
theorem dX12_point_107 : decode cX12_point 107 = .ok (.iadd, 1) := by decide +kernel
theorem dX12_point_108 : decode cX12_point 108 = .ok (.putfield 208, 3) := by decide +kernel
theorem dX12_point_111 : decode cX12_point 111 = .ok (.aload_n 0, 1) := by decide +kernel
theorem dX12_point_112 : decode cX12_point 112 = .ok (.getfield 208, 3) := by decide +kernel
theorem dX12_point_115 : decode cX12_point 115 = .ok (.ireturn, 1) := by decide +kernel
theorem dX12_untable_0 : decode cX12_untable 0 = .ok (.aload_n 0, 1) := by decide +kernel
theorem dX12_untable_1 : decode cX12_untable 1 = .ok (.getfield 208, 3) := by decide +kernel
theorem dX12_untable_4 : decode cX12_untable 4 = .ok (.istore_n 1, 1) := by decide +kernel
theorem dX12_untable_5 : decode cX12_untable 5 = .ok (.aload_n 0, 1) := by decide +kernel
theorem dX12_untable_6 : decode cX12_untable 6 = .ok (.iconst 0, 1) := by decide +kernel
theorem dX12_untable_7 : decode cX12_untable 7 = .ok (.putfield 208, 3) := by decide +kernel
theorem dX12_untable_10 : decode cX12_untable 10 = .ok (.iload_n 1, 1) := by decide +kernel
theorem dX12_untable_11 : decode cX12_untable 11 = .ok (.ireturn, 1) := by decide +kernel
theorem dX12_liftAt_0 : decode cX12_liftAt 0 = .ok (.aload_n 0, 1) := by decide +kernel
theorem dX12_liftAt_1 : decode cX12_liftAt 1 = .ok (.getfield 208, 3) := by decide +kernel
theorem dX12_liftAt_4 : decode cX12_liftAt 4 = .ok (.ifCond .ne 7, 3) := by decide +kernel
theorem dX12_liftAt_7 : decode cX12_liftAt 7 = .ok (.ldc2_w 211, 3) := by decide +kernel
theorem dX12_liftAt_10 : decode cX12_liftAt 10 = .ok (.lreturn, 1) := by decide +kernel
theorem dX12_liftAt_11 : decode cX12_liftAt 11 = .ok (.lload_n 1, 1) := by decide +kernel
theorem dX12_liftAt_12 : decode cX12_liftAt 12 = .ok (.ldc2_w 165, 3) := by decide +kernel
theorem dX12_liftAt_15 : decode cX12_liftAt 15 = .ok (.aload_n 0, 1) := by decide +kernel
theorem dX12_liftAt_16 : decode cX12_liftAt 16 = .ok (.getfield 66, 3) := by decide +kernel
theorem dX12_liftAt_19 : decode cX12_liftAt 19 = .ok (.iconst 0, 1) := by decide +kernel
theorem dX12_liftAt_20 : decode cX12_liftAt 20 = .ok (.iaload, 1) := by decide +kernel
theorem dX12_liftAt_21 : decode cX12_liftAt 21 = .ok (.i2l, 1) := by decide +kernel
theorem dX12_liftAt_22 : decode cX12_liftAt 22 = .ok (.lmul, 1) := by decide +kernel
theorem dX12_liftAt_23 : decode cX12_liftAt 23 = .ok (.lcmp, 1) := by decide +kernel
theorem dX12_liftAt_24 : decode cX12_liftAt 24 = .ok (.ifCond .gt 11, 3) := by decide +kernel
theorem dX12_liftAt_27 : decode cX12_liftAt 27 = .ok (.aload_n 0, 1) := by decide +kernel
theorem dX12_liftAt_28 : decode cX12_liftAt 28 = .ok (.getfield 69, 3) := by decide +kernel
theorem dX12_liftAt_31 : decode cX12_liftAt 31 = .ok (.iconst 0, 1) := by decide +kernel
theorem dX12_liftAt_32 : decode cX12_liftAt 32 = .ok (.iaload, 1) := by decide +kernel
theorem dX12_liftAt_33 : decode cX12_liftAt 33 = .ok (.i2l, 1) := by decide +kernel
theorem dX12_liftAt_34 : decode cX12_liftAt 34 = .ok (.lreturn, 1) := by decide +kernel
theorem dX12_liftAt_35 : decode cX12_liftAt 35 = .ok (.iconst 0, 1) := by decide +kernel
theorem dX12_liftAt_36 : decode cX12_liftAt 36 = .ok (.istore_n 3, 1) := by decide +kernel
theorem dX12_liftAt_37 : decode cX12_liftAt 37 = .ok (.iload_n 3, 1) := by decide +kernel
theorem dX12_liftAt_38 : decode cX12_liftAt 38 = .ok (.iconst 1, 1) := by decide +kernel
theorem dX12_liftAt_39 : decode cX12_liftAt 39 = .ok (.iadd, 1) := by decide +kernel
theorem dX12_liftAt_40 : decode cX12_liftAt 40 = .ok (.aload_n 0, 1) := by decide +kernel
theorem dX12_liftAt_41 : decode cX12_liftAt 41 = .ok (.getfield 208, 3) := by decide +kernel
theorem dX12_liftAt_44 : decode cX12_liftAt 44 = .ok (.if_icmp .ge 80, 3) := by decide +kernel
theorem dX12_liftAt_47 : decode cX12_liftAt 47 = .ok (.ldc2_w 165, 3) := by decide +kernel
theorem dX12_liftAt_50 : decode cX12_liftAt 50 = .ok (.aload_n 0, 1) := by decide +kernel
theorem dX12_liftAt_51 : decode cX12_liftAt 51 = .ok (.getfield 66, 3) := by decide +kernel
theorem dX12_liftAt_54 : decode cX12_liftAt 54 = .ok (.iload_n 3, 1) := by decide +kernel
theorem dX12_liftAt_55 : decode cX12_liftAt 55 = .ok (.iaload, 1) := by decide +kernel
theorem dX12_liftAt_56 : decode cX12_liftAt 56 = .ok (.i2l, 1) := by decide +kernel
theorem dX12_liftAt_57 : decode cX12_liftAt 57 = .ok (.lmul, 1) := by decide +kernel
theorem dX12_liftAt_58 : decode cX12_liftAt 58 = .ok (.lstore 4, 2) := by decide +kernel
theorem dX12_liftAt_60 : decode cX12_liftAt 60 = .ok (.ldc2_w 165, 3) := by decide +kernel
theorem dX12_liftAt_63 : decode cX12_liftAt 63 = .ok (.aload_n 0, 1) := by decide +kernel
theorem dX12_liftAt_64 : decode cX12_liftAt 64 = .ok (.getfield 66, 3) := by decide +kernel
theorem dX12_liftAt_67 : decode cX12_liftAt 67 = .ok (.iload_n 3, 1) := by decide +kernel
theorem dX12_liftAt_68 : decode cX12_liftAt 68 = .ok (.iconst 1, 1) := by decide +kernel
theorem dX12_liftAt_69 : decode cX12_liftAt 69 = .ok (.iadd, 1) := by decide +kernel
theorem dX12_liftAt_70 : decode cX12_liftAt 70 = .ok (.iaload, 1) := by decide +kernel
theorem dX12_liftAt_71 : decode cX12_liftAt 71 = .ok (.i2l, 1) := by decide +kernel
theorem dX12_liftAt_72 : decode cX12_liftAt 72 = .ok (.lmul, 1) := by decide +kernel
theorem dX12_liftAt_73 : decode cX12_liftAt 73 = .ok (.lstore 6, 2) := by decide +kernel
theorem dX12_liftAt_75 : decode cX12_liftAt 75 = .ok (.lload_n 1, 1) := by decide +kernel
theorem dX12_liftAt_76 : decode cX12_liftAt 76 = .ok (.lload 6, 2) := by decide +kernel
theorem dX12_liftAt_78 : decode cX12_liftAt 78 = .ok (.lcmp, 1) := by decide +kernel
theorem dX12_liftAt_79 : decode cX12_liftAt 79 = .ok (.ifCond .ge 39, 3) := by decide +kernel
theorem dX12_liftAt_82 : decode cX12_liftAt 82 = .ok (.aload_n 0, 1) := by decide +kernel
theorem dX12_liftAt_83 : decode cX12_liftAt 83 = .ok (.getfield 69, 3) := by decide +kernel
theorem dX12_liftAt_86 : decode cX12_liftAt 86 = .ok (.iload_n 3, 1) := by decide +kernel
theorem dX12_liftAt_87 : decode cX12_liftAt 87 = .ok (.iaload, 1) := by decide +kernel
theorem dX12_liftAt_88 : decode cX12_liftAt 88 = .ok (.i2l, 1) := by decide +kernel
theorem dX12_liftAt_89 : decode cX12_liftAt 89 = .ok (.aload_n 0, 1) := by decide +kernel
theorem dX12_liftAt_90 : decode cX12_liftAt 90 = .ok (.getfield 69, 3) := by decide +kernel
theorem dX12_liftAt_93 : decode cX12_liftAt 93 = .ok (.iload_n 3, 1) := by decide +kernel
theorem dX12_liftAt_94 : decode cX12_liftAt 94 = .ok (.iconst 1, 1) := by decide +kernel
theorem dX12_liftAt_95 : decode cX12_liftAt 95 = .ok (.iadd, 1) := by decide +kernel
theorem dX12_liftAt_96 : decode cX12_liftAt 96 = .ok (.iaload, 1) := by decide +kernel
theorem dX12_liftAt_97 : decode cX12_liftAt 97 = .ok (.aload_n 0, 1) := by decide +kernel
theorem dX12_liftAt_98 : decode cX12_liftAt 98 = .ok (.getfield 69, 3) := by decide +kernel
theorem dX12_liftAt_101 : decode cX12_liftAt 101 = .ok (.iload_n 3, 1) := by decide +kernel
theorem dX12_liftAt_102 : decode cX12_liftAt 102 = .ok (.iaload, 1) := by decide +kernel
theorem dX12_liftAt_103 : decode cX12_liftAt 103 = .ok (.isub, 1) := by decide +kernel
theorem dX12_liftAt_104 : decode cX12_liftAt 104 = .ok (.i2l, 1) := by decide +kernel
theorem dX12_liftAt_105 : decode cX12_liftAt 105 = .ok (.lload_n 1, 1) := by decide +kernel
theorem dX12_liftAt_106 : decode cX12_liftAt 106 = .ok (.lload 4, 2) := by decide +kernel
theorem dX12_liftAt_108 : decode cX12_liftAt 108 = .ok (.lsub, 1) := by decide +kernel
theorem dX12_liftAt_109 : decode cX12_liftAt 109 = .ok (.lmul, 1) := by decide +kernel
theorem dX12_liftAt_110 : decode cX12_liftAt 110 = .ok (.lload 6, 2) := by decide +kernel
theorem dX12_liftAt_112 : decode cX12_liftAt 112 = .ok (.lload 4, 2) := by decide +kernel
theorem dX12_liftAt_114 : decode cX12_liftAt 114 = .ok (.lsub, 1) := by decide +kernel
theorem dX12_liftAt_115 : decode cX12_liftAt 115 = .ok (.ldiv, 1) := by decide +kernel
theorem dX12_liftAt_116 : decode cX12_liftAt 116 = .ok (.ladd, 1) := by decide +kernel
theorem dX12_liftAt_117 : decode cX12_liftAt 117 = .ok (.lreturn, 1) := by decide +kernel
theorem dX12_liftAt_118 : decode cX12_liftAt 118 = .ok (.iinc 3 1, 3) := by decide +kernel
theorem dX12_liftAt_121 : decode cX12_liftAt 121 = .ok (.goto (-84), 3) := by decide +kernel
theorem dX12_liftAt_124 : decode cX12_liftAt 124 = .ok (.aload_n 0, 1) := by decide +kernel
theorem dX12_liftAt_125 : decode cX12_liftAt 125 = .ok (.getfield 69, 3) := by decide +kernel
theorem dX12_liftAt_128 : decode cX12_liftAt 128 = .ok (.aload_n 0, 1) := by decide +kernel
theorem dX12_liftAt_129 : decode cX12_liftAt 129 = .ok (.getfield 208, 3) := by decide +kernel
theorem dX12_liftAt_132 : decode cX12_liftAt 132 = .ok (.iconst 1, 1) := by decide +kernel
theorem dX12_liftAt_133 : decode cX12_liftAt 133 = .ok (.isub, 1) := by decide +kernel
theorem dX12_liftAt_134 : decode cX12_liftAt 134 = .ok (.iaload, 1) := by decide +kernel
theorem dX12_liftAt_135 : decode cX12_liftAt 135 = .ok (.i2l, 1) := by decide +kernel
theorem dX12_liftAt_136 : decode cX12_liftAt 136 = .ok (.lreturn, 1) := by decide +kernel
theorem dX12_lift_0 : decode cX12_lift 0 = .ok (.iload_n 1, 1) := by decide +kernel
theorem dX12_lift_1 : decode cX12_lift 1 = .ok (.ldc 213, 2) := by decide +kernel
theorem dX12_lift_3 : decode cX12_lift 3 = .ok (.if_icmp .ge 12, 3) := by decide +kernel
theorem dX12_lift_6 : decode cX12_lift 6 = .ok (.aload_n 0, 1) := by decide +kernel
theorem dX12_lift_7 : decode cX12_lift 7 = .ok (.bipush (-4), 2) := by decide +kernel
theorem dX12_lift_9 : decode cX12_lift 9 = .ok (.invokevirtual 150, 3) := by decide +kernel
theorem dX12_lift_12 : decode cX12_lift 12 = .ok (.goto 25, 3) := by decide +kernel
theorem dX12_lift_15 : decode cX12_lift 15 = .ok (.iload_n 1, 1) := by decide +kernel
theorem dX12_lift_16 : decode cX12_lift 16 = .ok (.ldc 214, 2) := by decide +kernel
theorem dX12_lift_18 : decode cX12_lift 18 = .ok (.if_icmp .le 12, 3) := by decide +kernel
theorem dX12_lift_21 : decode cX12_lift 21 = .ok (.aload_n 0, 1) := by decide +kernel
theorem dX12_lift_22 : decode cX12_lift 22 = .ok (.bipush (-6), 2) := by decide +kernel
theorem dX12_lift_24 : decode cX12_lift 24 = .ok (.invokevirtual 150, 3) := by decide +kernel
theorem dX12_lift_27 : decode cX12_lift 27 = .ok (.goto 10, 3) := by decide +kernel
theorem dX12_lift_30 : decode cX12_lift 30 = .ok (.aload_n 0, 1) := by decide +kernel
theorem dX12_lift_31 : decode cX12_lift 31 = .ok (.iload_n 1, 1) := by decide +kernel
theorem dX12_lift_32 : decode cX12_lift 32 = .ok (.i2l, 1) := by decide +kernel
theorem dX12_lift_33 : decode cX12_lift 33 = .ok (.invokevirtual 215, 3) := by decide +kernel
theorem dX12_lift_36 : decode cX12_lift 36 = .ok (.l2i, 1) := by decide +kernel
theorem dX12_lift_37 : decode cX12_lift 37 = .ok (.ireturn, 1) := by decide +kernel
theorem dX12_barred_0 : decode cX12_barred 0 = .ok (.iload_n 1, 1) := by decide +kernel
theorem dX12_barred_1 : decode cX12_barred 1 = .ok (.ifCond .ge 8, 3) := by decide +kernel
theorem dX12_barred_4 : decode cX12_barred 4 = .ok (.bipush (-4), 2) := by decide +kernel
theorem dX12_barred_6 : decode cX12_barred 6 = .ok (.goto 34, 3) := by decide +kernel
theorem dX12_barred_9 : decode cX12_barred 9 = .ok (.iload_n 1, 1) := by decide +kernel
theorem dX12_barred_10 : decode cX12_barred 10 = .ok (.bipush 23, 2) := by decide +kernel
theorem dX12_barred_12 : decode cX12_barred 12 = .ok (.if_icmp .le 8, 3) := by decide +kernel
theorem dX12_barred_15 : decode cX12_barred 15 = .ok (.bipush (-6), 2) := by decide +kernel
theorem dX12_barred_17 : decode cX12_barred 17 = .ok (.goto 23, 3) := by decide +kernel
theorem dX12_barred_20 : decode cX12_barred 20 = .ok (.iload_n 2, 1) := by decide +kernel
theorem dX12_barred_21 : decode cX12_barred 21 = .ok (.ifCond .ge 8, 3) := by decide +kernel
theorem dX12_barred_24 : decode cX12_barred 24 = .ok (.bipush (-4), 2) := by decide +kernel
theorem dX12_barred_26 : decode cX12_barred 26 = .ok (.goto 14, 3) := by decide +kernel
theorem dX12_barred_29 : decode cX12_barred 29 = .ok (.iload_n 2, 1) := by decide +kernel
theorem dX12_barred_30 : decode cX12_barred 30 = .ok (.iload_n 3, 1) := by decide +kernel
theorem dX12_barred_31 : decode cX12_barred 31 = .ok (.if_icmp .le 8, 3) := by decide +kernel
theorem dX12_barred_34 : decode cX12_barred 34 = .ok (.bipush (-6), 2) := by decide +kernel
theorem dX12_barred_36 : decode cX12_barred 36 = .ok (.goto 4, 3) := by decide +kernel
theorem dX12_barred_39 : decode cX12_barred 39 = .ok (.iconst 0, 1) := by decide +kernel
theorem dX12_barred_40 : decode cX12_barred 40 = .ok (.ireturn, 1) := by decide +kernel
theorem dX12_price_0 : decode cX12_price 0 = .ok (.aload_n 0, 1) := by decide +kernel
theorem dX12_price_1 : decode cX12_price 1 = .ok (.iload_n 1, 1) := by decide +kernel
theorem dX12_price_2 : decode cX12_price 2 = .ok (.iload_n 2, 1) := by decide +kernel
theorem dX12_price_3 : decode cX12_price 3 = .ok (.sipush 999, 3) := by decide +kernel
theorem dX12_price_6 : decode cX12_price 6 = .ok (.invokevirtual 219, 3) := by decide +kernel
theorem dX12_price_9 : decode cX12_price 9 = .ok (.istore_n 3, 1) := by decide +kernel
theorem dX12_price_10 : decode cX12_price 10 = .ok (.iload_n 3, 1) := by decide +kernel
theorem dX12_price_11 : decode cX12_price 11 = .ok (.ifCond .eq 9, 3) := by decide +kernel
theorem dX12_price_14 : decode cX12_price 14 = .ok (.aload_n 0, 1) := by decide +kernel
theorem dX12_price_15 : decode cX12_price 15 = .ok (.iload_n 3, 1) := by decide +kernel
theorem dX12_price_16 : decode cX12_price 16 = .ok (.invokevirtual 150, 3) := by decide +kernel
theorem dX12_price_19 : decode cX12_price 19 = .ok (.ireturn, 1) := by decide +kernel
theorem dX12_price_20 : decode cX12_price 20 = .ok (.aload_n 0, 1) := by decide +kernel
theorem dX12_price_21 : decode cX12_price 21 = .ok (.getfield 72, 3) := by decide +kernel
theorem dX12_price_24 : decode cX12_price 24 = .ok (.iload_n 1, 1) := by decide +kernel
theorem dX12_price_25 : decode cX12_price 25 = .ok (.iaload, 1) := by decide +kernel
theorem dX12_price_26 : decode cX12_price 26 = .ok (.istore 4, 2) := by decide +kernel
theorem dX12_price_28 : decode cX12_price 28 = .ok (.aload_n 0, 1) := by decide +kernel
theorem dX12_price_29 : decode cX12_price 29 = .ok (.getfield 72, 3) := by decide +kernel
theorem dX12_price_32 : decode cX12_price 32 = .ok (.iload_n 1, 1) := by decide +kernel
theorem dX12_price_33 : decode cX12_price 33 = .ok (.iload_n 2, 1) := by decide +kernel
theorem dX12_price_34 : decode cX12_price 34 = .ok (.iastore, 1) := by decide +kernel
theorem dX12_price_35 : decode cX12_price 35 = .ok (.iload 4, 2) := by decide +kernel
theorem dX12_price_37 : decode cX12_price 37 = .ok (.ireturn, 1) := by decide +kernel
theorem dX12_sun_0 : decode cX12_sun 0 = .ok (.aload_n 0, 1) := by decide +kernel
theorem dX12_sun_1 : decode cX12_sun 1 = .ok (.iload_n 1, 1) := by decide +kernel
theorem dX12_sun_2 : decode cX12_sun 2 = .ok (.iload_n 2, 1) := by decide +kernel
theorem dX12_sun_3 : decode cX12_sun 3 = .ok (.ldc 223, 2) := by decide +kernel
theorem dX12_sun_5 : decode cX12_sun 5 = .ok (.invokevirtual 219, 3) := by decide +kernel
theorem dX12_sun_8 : decode cX12_sun 8 = .ok (.istore_n 3, 1) := by decide +kernel
theorem dX12_sun_9 : decode cX12_sun 9 = .ok (.iload_n 3, 1) := by decide +kernel
theorem dX12_sun_10 : decode cX12_sun 10 = .ok (.ifCond .eq 9, 3) := by decide +kernel
theorem dX12_sun_13 : decode cX12_sun 13 = .ok (.aload_n 0, 1) := by decide +kernel
theorem dX12_sun_14 : decode cX12_sun 14 = .ok (.iload_n 3, 1) := by decide +kernel
theorem dX12_sun_15 : decode cX12_sun 15 = .ok (.invokevirtual 150, 3) := by decide +kernel
theorem dX12_sun_18 : decode cX12_sun 18 = .ok (.ireturn, 1) := by decide +kernel
theorem dX12_sun_19 : decode cX12_sun 19 = .ok (.aload_n 0, 1) := by decide +kernel
theorem dX12_sun_20 : decode cX12_sun 20 = .ok (.getfield 75, 3) := by decide +kernel
theorem dX12_sun_23 : decode cX12_sun 23 = .ok (.iload_n 1, 1) := by decide +kernel
theorem dX12_sun_24 : decode cX12_sun 24 = .ok (.iaload, 1) := by decide +kernel
theorem dX12_sun_25 : decode cX12_sun 25 = .ok (.istore 4, 2) := by decide +kernel
theorem dX12_sun_27 : decode cX12_sun 27 = .ok (.aload_n 0, 1) := by decide +kernel
theorem dX12_sun_28 : decode cX12_sun 28 = .ok (.getfield 75, 3) := by decide +kernel
theorem dX12_sun_31 : decode cX12_sun 31 = .ok (.iload_n 1, 1) := by decide +kernel
theorem dX12_sun_32 : decode cX12_sun 32 = .ok (.iload_n 2, 1) := by decide +kernel
theorem dX12_sun_33 : decode cX12_sun 33 = .ok (.iastore, 1) := by decide +kernel
theorem dX12_sun_34 : decode cX12_sun 34 = .ok (.iload 4, 2) := by decide +kernel
theorem dX12_sun_36 : decode cX12_sun 36 = .ok (.ireturn, 1) := by decide +kernel
theorem dX12_feed_0 : decode cX12_feed 0 = .ok (.iload_n 1, 1) := by decide +kernel
theorem dX12_feed_1 : decode cX12_feed 1 = .ok (.iconst 1, 1) := by decide +kernel
theorem dX12_feed_2 : decode cX12_feed 2 = .ok (.if_icmp .ge 10, 3) := by decide +kernel
theorem dX12_feed_5 : decode cX12_feed 5 = .ok (.aload_n 0, 1) := by decide +kernel
theorem dX12_feed_6 : decode cX12_feed 6 = .ok (.bipush (-4), 2) := by decide +kernel
theorem dX12_feed_8 : decode cX12_feed 8 = .ok (.invokevirtual 150, 3) := by decide +kernel
theorem dX12_feed_11 : decode cX12_feed 11 = .ok (.ireturn, 1) := by decide +kernel
theorem dX12_feed_12 : decode cX12_feed 12 = .ok (.iload_n 1, 1) := by decide +kernel
theorem dX12_feed_13 : decode cX12_feed 13 = .ok (.bipush 8, 2) := by decide +kernel
theorem dX12_feed_15 : decode cX12_feed 15 = .ok (.if_icmp .gt 14, 3) := by decide +kernel
theorem dX12_feed_18 : decode cX12_feed 18 = .ok (.aload_n 0, 1) := by decide +kernel
theorem dX12_feed_19 : decode cX12_feed 19 = .ok (.getfield 224, 3) := by decide +kernel
theorem dX12_feed_22 : decode cX12_feed 22 = .ok (.iload_n 1, 1) := by decide +kernel
theorem dX12_feed_23 : decode cX12_feed 23 = .ok (.iadd, 1) := by decide +kernel
theorem dX12_feed_24 : decode cX12_feed 24 = .ok (.bipush 60, 2) := by decide +kernel
theorem dX12_feed_26 : decode cX12_feed 26 = .ok (.if_icmp .le 10, 3) := by decide +kernel
theorem dX12_feed_29 : decode cX12_feed 29 = .ok (.aload_n 0, 1) := by decide +kernel
theorem dX12_feed_30 : decode cX12_feed 30 = .ok (.bipush (-6), 2) := by decide +kernel
theorem dX12_feed_32 : decode cX12_feed 32 = .ok (.invokevirtual 150, 3) := by decide +kernel
theorem dX12_feed_35 : decode cX12_feed 35 = .ok (.ireturn, 1) := by decide +kernel
theorem dX12_feed_36 : decode cX12_feed 36 = .ok (.iconst 0, 1) := by decide +kernel
theorem dX12_feed_37 : decode cX12_feed 37 = .ok (.istore 4, 2) := by decide +kernel
theorem dX12_feed_39 : decode cX12_feed 39 = .ok (.iload 4, 2) := by decide +kernel
theorem dX12_feed_41 : decode cX12_feed 41 = .ok (.iload_n 1, 1) := by decide +kernel
theorem dX12_feed_42 : decode cX12_feed 42 = .ok (.if_icmp .ge 40, 3) := by decide +kernel
theorem dX12_feed_45 : decode cX12_feed 45 = .ok (.aload_n 0, 1) := by decide +kernel
theorem dX12_feed_46 : decode cX12_feed 46 = .ok (.getfield 78, 3) := by decide +kernel
theorem dX12_feed_49 : decode cX12_feed 49 = .ok (.aload_n 0, 1) := by decide +kernel
theorem dX12_feed_50 : decode cX12_feed 50 = .ok (.getfield 224, 3) := by decide +kernel
theorem dX12_feed_53 : decode cX12_feed 53 = .ok (.lload_n 2, 1) := by decide +kernel
theorem dX12_feed_54 : decode cX12_feed 54 = .ok (.bipush 8, 2) := by decide +kernel
theorem dX12_feed_56 : decode cX12_feed 56 = .ok (.iload 4, 2) := by decide +kernel
theorem dX12_feed_58 : decode cX12_feed 58 = .ok (.imul, 1) := by decide +kernel
theorem dX12_feed_59 : decode cX12_feed 59 = .ok (.lshr, 1) := by decide +kernel
theorem dX12_feed_60 : decode cX12_feed 60 = .ok (.ldc2_w 227, 3) := by decide +kernel
theorem dX12_feed_63 : decode cX12_feed 63 = .ok (.land, 1) := by decide +kernel
theorem dX12_feed_64 : decode cX12_feed 64 = .ok (.l2i, 1) := by decide +kernel
theorem dX12_feed_65 : decode cX12_feed 65 = .ok (.iastore, 1) := by decide +kernel
theorem dX12_feed_66 : decode cX12_feed 66 = .ok (.aload_n 0, 1) := by decide +kernel
theorem dX12_feed_67 : decode cX12_feed 67 = .ok (.dup, 1) := by decide +kernel
theorem dX12_feed_68 : decode cX12_feed 68 = .ok (.getfield 224, 3) := by decide +kernel
theorem dX12_feed_71 : decode cX12_feed 71 = .ok (.iconst 1, 1) := by decide +kernel
theorem dX12_feed_72 : decode cX12_feed 72 = .ok (.iadd, 1) := by decide +kernel
theorem dX12_feed_73 : decode cX12_feed 73 = .ok (.putfield 224, 3) := by decide +kernel
theorem dX12_feed_76 : decode cX12_feed 76 = .ok (.iinc 4 1, 3) := by decide +kernel
theorem dX12_feed_79 : decode cX12_feed 79 = .ok (.goto (-40), 3) := by decide +kernel
theorem dX12_feed_82 : decode cX12_feed 82 = .ok (.aload_n 0, 1) := by decide +kernel
theorem dX12_feed_83 : decode cX12_feed 83 = .ok (.getfield 224, 3) := by decide +kernel
theorem dX12_feed_86 : decode cX12_feed 86 = .ok (.ireturn, 1) := by decide +kernel
theorem dX12_here_0 : decode cX12_here 0 = .ok (.aload_n 0, 1) := by decide +kernel
theorem dX12_here_1 : decode cX12_here 1 = .ok (.getfield 229, 3) := by decide +kernel
theorem dX12_here_4 : decode cX12_here 4 = .ok (.aload_n 0, 1) := by decide +kernel
theorem dX12_here_5 : decode cX12_here 5 = .ok (.getfield 224, 3) := by decide +kernel
theorem dX12_here_8 : decode cX12_here 8 = .ok (.if_icmp .ge 15, 3) := by decide +kernel
theorem dX12_here_11 : decode cX12_here 11 = .ok (.aload_n 0, 1) := by decide +kernel
theorem dX12_here_12 : decode cX12_here 12 = .ok (.getfield 78, 3) := by decide +kernel
theorem dX12_here_15 : decode cX12_here 15 = .ok (.aload_n 0, 1) := by decide +kernel
theorem dX12_here_16 : decode cX12_here 16 = .ok (.getfield 229, 3) := by decide +kernel
theorem dX12_here_19 : decode cX12_here 19 = .ok (.iaload, 1) := by decide +kernel
theorem dX12_here_20 : decode cX12_here 20 = .ok (.goto 4, 3) := by decide +kernel
theorem dX12_here_23 : decode cX12_here 23 = .ok (.iconst (-1), 1) := by decide +kernel
theorem dX12_here_24 : decode cX12_here 24 = .ok (.ireturn, 1) := by decide +kernel
theorem dX12_puts_0 : decode cX12_puts 0 = .ok (.aload_n 0, 1) := by decide +kernel
theorem dX12_puts_1 : decode cX12_puts 1 = .ok (.getfield 90, 3) := by decide +kernel
theorem dX12_puts_4 : decode cX12_puts 4 = .ok (.bipush 62, 2) := by decide +kernel
theorem dX12_puts_6 : decode cX12_puts 6 = .ok (.aload_n 0, 1) := by decide +kernel
theorem dX12_puts_7 : decode cX12_puts 7 = .ok (.getfield 232, 3) := by decide +kernel
theorem dX12_puts_10 : decode cX12_puts 10 = .ok (.imul, 1) := by decide +kernel
theorem dX12_puts_11 : decode cX12_puts 11 = .ok (.aload_n 0, 1) := by decide +kernel
theorem dX12_puts_12 : decode cX12_puts 12 = .ok (.getfield 235, 3) := by decide +kernel
theorem dX12_puts_15 : decode cX12_puts 15 = .ok (.iadd, 1) := by decide +kernel
theorem dX12_puts_16 : decode cX12_puts 16 = .ok (.iload_n 1, 1) := by decide +kernel
theorem dX12_puts_17 : decode cX12_puts 17 = .ok (.iastore, 1) := by decide +kernel
theorem dX12_puts_18 : decode cX12_puts 18 = .ok (.aload_n 0, 1) := by decide +kernel
theorem dX12_puts_19 : decode cX12_puts 19 = .ok (.dup, 1) := by decide +kernel
theorem dX12_puts_20 : decode cX12_puts 20 = .ok (.getfield 235, 3) := by decide +kernel
theorem dX12_puts_23 : decode cX12_puts 23 = .ok (.iconst 1, 1) := by decide +kernel
theorem dX12_puts_24 : decode cX12_puts 24 = .ok (.iadd, 1) := by decide +kernel
theorem dX12_puts_25 : decode cX12_puts 25 = .ok (.putfield 235, 3) := by decide +kernel
theorem dX12_puts_28 : decode cX12_puts 28 = .ok (.return_, 1) := by decide +kernel
theorem dX12_sum_0 : decode cX12_sum 0 = .ok (.aload_n 0, 1) := by decide +kernel
theorem dX12_sum_1 : decode cX12_sum 1 = .ok (.iload_n 1, 1) := by decide +kernel
theorem dX12_sum_2 : decode cX12_sum 2 = .ok (.invokevirtual 238, 3) := by decide +kernel
theorem dX12_sum_5 : decode cX12_sum 5 = .ok (.aload_n 0, 1) := by decide +kernel
theorem dX12_sum_6 : decode cX12_sum 6 = .ok (.getfield 242, 3) := by decide +kernel
theorem dX12_sum_9 : decode cX12_sum 9 = .ok (.ifCond .ne 61, 3) := by decide +kernel
theorem dX12_sum_12 : decode cX12_sum 12 = .ok (.aload_n 0, 1) := by decide +kernel
theorem dX12_sum_13 : decode cX12_sum 13 = .ok (.invokevirtual 246, 3) := by decide +kernel
theorem dX12_sum_16 : decode cX12_sum 16 = .ok (.bipush 43, 2) := by decide +kernel
theorem dX12_sum_18 : decode cX12_sum 18 = .ok (.if_icmp .eq 12, 3) := by decide +kernel
theorem dX12_sum_21 : decode cX12_sum 21 = .ok (.aload_n 0, 1) := by decide +kernel
theorem dX12_sum_22 : decode cX12_sum 22 = .ok (.invokevirtual 246, 3) := by decide +kernel
theorem dX12_sum_25 : decode cX12_sum 25 = .ok (.bipush 45, 2) := by decide +kernel
theorem dX12_sum_27 : decode cX12_sum 27 = .ok (.if_icmp .ne 43, 3) := by decide +kernel
theorem dX12_sum_30 : decode cX12_sum 30 = .ok (.aload_n 0, 1) := by decide +kernel
theorem dX12_sum_31 : decode cX12_sum 31 = .ok (.invokevirtual 246, 3) := by decide +kernel
theorem dX12_sum_34 : decode cX12_sum 34 = .ok (.bipush 43, 2) := by decide +kernel
theorem dX12_sum_36 : decode cX12_sum 36 = .ok (.if_icmp .ne 8, 3) := by decide +kernel
theorem dX12_sum_39 : decode cX12_sum 39 = .ok (.bipush 20, 2) := by decide +kernel
theorem dX12_sum_41 : decode cX12_sum 41 = .ok (.goto 5, 3) := by decide +kernel
theorem dX12_sum_44 : decode cX12_sum 44 = .ok (.bipush 21, 2) := by decide +kernel
theorem dX12_sum_46 : decode cX12_sum 46 = .ok (.istore_n 2, 1) := by decide +kernel
theorem dX12_sum_47 : decode cX12_sum 47 = .ok (.aload_n 0, 1) := by decide +kernel
theorem dX12_sum_48 : decode cX12_sum 48 = .ok (.dup, 1) := by decide +kernel
theorem dX12_sum_49 : decode cX12_sum 49 = .ok (.getfield 229, 3) := by decide +kernel
theorem dX12_sum_52 : decode cX12_sum 52 = .ok (.iconst 1, 1) := by decide +kernel
theorem dX12_sum_53 : decode cX12_sum 53 = .ok (.iadd, 1) := by decide +kernel
theorem dX12_sum_54 : decode cX12_sum 54 = .ok (.putfield 229, 3) := by decide +kernel
theorem dX12_sum_57 : decode cX12_sum 57 = .ok (.aload_n 0, 1) := by decide +kernel
theorem dX12_sum_58 : decode cX12_sum 58 = .ok (.iload_n 1, 1) := by decide +kernel
theorem dX12_sum_59 : decode cX12_sum 59 = .ok (.invokevirtual 238, 3) := by decide +kernel
theorem dX12_sum_62 : decode cX12_sum 62 = .ok (.aload_n 0, 1) := by decide +kernel
theorem dX12_sum_63 : decode cX12_sum 63 = .ok (.iload_n 2, 1) := by decide +kernel
theorem dX12_sum_64 : decode cX12_sum 64 = .ok (.invokevirtual 250, 3) := by decide +kernel
theorem dX12_sum_67 : decode cX12_sum 67 = .ok (.goto (-62), 3) := by decide +kernel
theorem dX12_sum_70 : decode cX12_sum 70 = .ok (.return_, 1) := by decide +kernel
theorem dX12_term_0 : decode cX12_term 0 = .ok (.aload_n 0, 1) := by decide +kernel
theorem dX12_term_1 : decode cX12_term 1 = .ok (.iload_n 1, 1) := by decide +kernel
theorem dX12_term_2 : decode cX12_term 2 = .ok (.invokevirtual 253, 3) := by decide +kernel
theorem dX12_term_5 : decode cX12_term 5 = .ok (.aload_n 0, 1) := by decide +kernel
theorem dX12_term_6 : decode cX12_term 6 = .ok (.getfield 242, 3) := by decide +kernel
theorem dX12_term_9 : decode cX12_term 9 = .ok (.ifCond .ne 61, 3) := by decide +kernel
theorem dX12_term_12 : decode cX12_term 12 = .ok (.aload_n 0, 1) := by decide +kernel
theorem dX12_term_13 : decode cX12_term 13 = .ok (.invokevirtual 246, 3) := by decide +kernel
theorem dX12_term_16 : decode cX12_term 16 = .ok (.bipush 42, 2) := by decide +kernel
theorem dX12_term_18 : decode cX12_term 18 = .ok (.if_icmp .eq 12, 3) := by decide +kernel
theorem dX12_term_21 : decode cX12_term 21 = .ok (.aload_n 0, 1) := by decide +kernel
theorem dX12_term_22 : decode cX12_term 22 = .ok (.invokevirtual 246, 3) := by decide +kernel
theorem dX12_term_25 : decode cX12_term 25 = .ok (.bipush 47, 2) := by decide +kernel
theorem dX12_term_27 : decode cX12_term 27 = .ok (.if_icmp .ne 43, 3) := by decide +kernel
theorem dX12_term_30 : decode cX12_term 30 = .ok (.aload_n 0, 1) := by decide +kernel
theorem dX12_term_31 : decode cX12_term 31 = .ok (.invokevirtual 246, 3) := by decide +kernel
theorem dX12_term_34 : decode cX12_term 34 = .ok (.bipush 42, 2) := by decide +kernel
theorem dX12_term_36 : decode cX12_term 36 = .ok (.if_icmp .ne 8, 3) := by decide +kernel
theorem dX12_term_39 : decode cX12_term 39 = .ok (.bipush 22, 2) := by decide +kernel
theorem dX12_term_41 : decode cX12_term 41 = .ok (.goto 5, 3) := by decide +kernel
theorem dX12_term_44 : decode cX12_term 44 = .ok (.bipush 23, 2) := by decide +kernel
theorem dX12_term_46 : decode cX12_term 46 = .ok (.istore_n 2, 1) := by decide +kernel
theorem dX12_term_47 : decode cX12_term 47 = .ok (.aload_n 0, 1) := by decide +kernel
theorem dX12_term_48 : decode cX12_term 48 = .ok (.dup, 1) := by decide +kernel
theorem dX12_term_49 : decode cX12_term 49 = .ok (.getfield 229, 3) := by decide +kernel
theorem dX12_term_52 : decode cX12_term 52 = .ok (.iconst 1, 1) := by decide +kernel
theorem dX12_term_53 : decode cX12_term 53 = .ok (.iadd, 1) := by decide +kernel
theorem dX12_term_54 : decode cX12_term 54 = .ok (.putfield 229, 3) := by decide +kernel
theorem dX12_term_57 : decode cX12_term 57 = .ok (.aload_n 0, 1) := by decide +kernel
theorem dX12_term_58 : decode cX12_term 58 = .ok (.iload_n 1, 1) := by decide +kernel
theorem dX12_term_59 : decode cX12_term 59 = .ok (.invokevirtual 253, 3) := by decide +kernel
theorem dX12_term_62 : decode cX12_term 62 = .ok (.aload_n 0, 1) := by decide +kernel
theorem dX12_term_63 : decode cX12_term 63 = .ok (.iload_n 2, 1) := by decide +kernel
theorem dX12_term_64 : decode cX12_term 64 = .ok (.invokevirtual 250, 3) := by decide +kernel
theorem dX12_term_67 : decode cX12_term 67 = .ok (.goto (-62), 3) := by decide +kernel
theorem dX12_term_70 : decode cX12_term 70 = .ok (.return_, 1) := by decide +kernel
theorem dX12_unit_0 : decode cX12_unit 0 = .ok (.aload_n 0, 1) := by decide +kernel
theorem dX12_unit_1 : decode cX12_unit 1 = .ok (.getfield 242, 3) := by decide +kernel
theorem dX12_unit_4 : decode cX12_unit 4 = .ok (.ifCond .eq 4, 3) := by decide +kernel
theorem dX12_unit_7 : decode cX12_unit 7 = .ok (.return_, 1) := by decide +kernel
theorem dX12_unit_8 : decode cX12_unit 8 = .ok (.aload_n 0, 1) := by decide +kernel
theorem dX12_unit_9 : decode cX12_unit 9 = .ok (.invokevirtual 246, 3) := by decide +kernel
theorem dX12_unit_12 : decode cX12_unit 12 = .ok (.istore_n 2, 1) := by decide +kernel
theorem dX12_unit_13 : decode cX12_unit 13 = .ok (.iload_n 2, 1) := by decide +kernel
theorem dX12_unit_14 : decode cX12_unit 14 = .ok (.i2l, 1) := by decide +kernel
theorem dX12_unit_15 : decode cX12_unit 15 = .ok (.ldc2_w 256, 3) := by decide +kernel
theorem dX12_unit_18 : decode cX12_unit 18 = .ok (.ldc2_w 258, 3) := by decide +kernel
theorem dX12_unit_21 : decode cX12_unit 21 = .ok (.invokestatic 157, 3) := by decide +kernel
theorem dX12_unit_24 : decode cX12_unit 24 = .ok (.ifCond .eq 72, 3) := by decide +kernel
theorem dX12_unit_27 : decode cX12_unit 27 = .ok (.iconst 0, 1) := by decide +kernel
theorem dX12_unit_28 : decode cX12_unit 28 = .ok (.istore_n 3, 1) := by decide +kernel
theorem dX12_unit_29 : decode cX12_unit 29 = .ok (.iconst 0, 1) := by decide +kernel
theorem dX12_unit_30 : decode cX12_unit 30 = .ok (.istore 4, 2) := by decide +kernel
theorem dX12_unit_32 : decode cX12_unit 32 = .ok (.iload 4, 2) := by decide +kernel
theorem dX12_unit_34 : decode cX12_unit 34 = .ok (.iconst 5, 1) := by decide +kernel
theorem dX12_unit_35 : decode cX12_unit 35 = .ok (.if_icmp .ge 49, 3) := by decide +kernel
theorem dX12_unit_38 : decode cX12_unit 38 = .ok (.aload_n 0, 1) := by decide +kernel
theorem dX12_unit_39 : decode cX12_unit 39 = .ok (.invokevirtual 246, 3) := by decide +kernel
theorem dX12_unit_42 : decode cX12_unit 42 = .ok (.i2l, 1) := by decide +kernel
theorem dX12_unit_43 : decode cX12_unit 43 = .ok (.ldc2_w 256, 3) := by decide +kernel
theorem dX12_unit_46 : decode cX12_unit 46 = .ok (.ldc2_w 258, 3) := by decide +kernel
theorem dX12_unit_49 : decode cX12_unit 49 = .ok (.invokestatic 157, 3) := by decide +kernel
theorem dX12_unit_52 : decode cX12_unit 52 = .ok (.ifCond .eq 32, 3) := by decide +kernel
theorem dX12_unit_55 : decode cX12_unit 55 = .ok (.bipush 10, 2) := by decide +kernel
theorem dX12_unit_57 : decode cX12_unit 57 = .ok (.iload_n 3, 1) := by decide +kernel
theorem dX12_unit_58 : decode cX12_unit 58 = .ok (.imul, 1) := by decide +kernel
theorem dX12_unit_59 : decode cX12_unit 59 = .ok (.aload_n 0, 1) := by decide +kernel
theorem dX12_unit_60 : decode cX12_unit 60 = .ok (.invokevirtual 246, 3) := by decide +kernel
theorem dX12_unit_63 : decode cX12_unit 63 = .ok (.iadd, 1) := by decide +kernel
theorem dX12_unit_64 : decode cX12_unit 64 = .ok (.bipush 48, 2) := by decide +kernel
theorem dX12_unit_66 : decode cX12_unit 66 = .ok (.isub, 1) := by decide +kernel
theorem dX12_unit_67 : decode cX12_unit 67 = .ok (.istore_n 3, 1) := by decide +kernel
theorem dX12_unit_68 : decode cX12_unit 68 = .ok (.aload_n 0, 1) := by decide +kernel
theorem dX12_unit_69 : decode cX12_unit 69 = .ok (.dup, 1) := by decide +kernel
theorem dX12_unit_70 : decode cX12_unit 70 = .ok (.getfield 229, 3) := by decide +kernel
theorem dX12_unit_73 : decode cX12_unit 73 = .ok (.iconst 1, 1) := by decide +kernel
theorem dX12_unit_74 : decode cX12_unit 74 = .ok (.iadd, 1) := by decide +kernel
theorem dX12_unit_75 : decode cX12_unit 75 = .ok (.putfield 229, 3) := by decide +kernel
theorem dX12_unit_78 : decode cX12_unit 78 = .ok (.iinc 4 1, 3) := by decide +kernel
theorem dX12_unit_81 : decode cX12_unit 81 = .ok (.goto (-49), 3) := by decide +kernel
theorem dX12_unit_84 : decode cX12_unit 84 = .ok (.aload_n 0, 1) := by decide +kernel
theorem dX12_unit_85 : decode cX12_unit 85 = .ok (.sipush 1000, 3) := by decide +kernel
theorem dX12_unit_88 : decode cX12_unit 88 = .ok (.iload_n 3, 1) := by decide +kernel
theorem dX12_unit_89 : decode cX12_unit 89 = .ok (.iadd, 1) := by decide +kernel
theorem dX12_unit_90 : decode cX12_unit 90 = .ok (.invokevirtual 250, 3) := by decide +kernel
theorem dX12_unit_93 : decode cX12_unit 93 = .ok (.goto 92, 3) := by decide +kernel
theorem dX12_unit_96 : decode cX12_unit 96 = .ok (.iload_n 2, 1) := by decide +kernel
theorem dX12_unit_97 : decode cX12_unit 97 = .ok (.bipush 40, 2) := by decide +kernel
theorem dX12_unit_99 : decode cX12_unit 99 = .ok (.if_icmp .ne 35, 3) := by decide +kernel
theorem dX12_unit_102 : decode cX12_unit 102 = .ok (.iload_n 1, 1) := by decide +kernel
theorem dX12_unit_103 : decode cX12_unit 103 = .ok (.iconst 5, 1) := by decide +kernel
theorem dX12_unit_104 : decode cX12_unit 104 = .ok (.if_icmp .ge 30, 3) := by decide +kernel
theorem dX12_unit_107 : decode cX12_unit 107 = .ok (.aload_n 0, 1) := by decide +kernel
theorem dX12_unit_108 : decode cX12_unit 108 = .ok (.dup, 1) := by decide +kernel
theorem dX12_unit_109 : decode cX12_unit 109 = .ok (.getfield 229, 3) := by decide +kernel
theorem dX12_unit_112 : decode cX12_unit 112 = .ok (.iconst 1, 1) := by decide +kernel
theorem dX12_unit_113 : decode cX12_unit 113 = .ok (.iadd, 1) := by decide +kernel
theorem dX12_unit_114 : decode cX12_unit 114 = .ok (.putfield 229, 3) := by decide +kernel
theorem dX12_unit_117 : decode cX12_unit 117 = .ok (.aload_n 0, 1) := by decide +kernel
theorem dX12_unit_118 : decode cX12_unit 118 = .ok (.iload_n 1, 1) := by decide +kernel
theorem dX12_unit_119 : decode cX12_unit 119 = .ok (.iconst 1, 1) := by decide +kernel
theorem dX12_unit_120 : decode cX12_unit 120 = .ok (.iadd, 1) := by decide +kernel
theorem dX12_unit_121 : decode cX12_unit 121 = .ok (.invokevirtual 260, 3) := by decide +kernel
theorem dX12_unit_124 : decode cX12_unit 124 = .ok (.aload_n 0, 1) := by decide +kernel
theorem dX12_unit_125 : decode cX12_unit 125 = .ok (.iload_n 1, 1) := by decide +kernel
theorem dX12_unit_126 : decode cX12_unit 126 = .ok (.iconst 1, 1) := by decide +kernel
theorem dX12_unit_127 : decode cX12_unit 127 = .ok (.iadd, 1) := by decide +kernel
theorem dX12_unit_128 : decode cX12_unit 128 = .ok (.invokevirtual 263, 3) := by decide +kernel
theorem dX12_unit_131 : decode cX12_unit 131 = .ok (.goto 54, 3) := by decide +kernel
theorem dX12_unit_134 : decode cX12_unit 134 = .ok (.iconst 0, 1) := by decide +kernel
theorem dX12_unit_135 : decode cX12_unit 135 = .ok (.istore_n 3, 1) := by decide +kernel
theorem dX12_unit_136 : decode cX12_unit 136 = .ok (.iload_n 3, 1) := by decide +kernel
theorem dX12_unit_137 : decode cX12_unit 137 = .ok (.bipush 9, 2) := by decide +kernel
theorem dX12_unit_139 : decode cX12_unit 139 = .ok (.if_icmp .ge 19, 3) := by decide +kernel
theorem dX12_unit_142 : decode cX12_unit 142 = .ok (.aload_n 0, 1) := by decide +kernel
theorem dX12_unit_143 : decode cX12_unit 143 = .ok (.getfield 106, 3) := by decide +kernel
theorem dX12_unit_146 : decode cX12_unit 146 = .ok (.iload_n 3, 1) := by decide +kernel
theorem dX12_unit_147 : decode cX12_unit 147 = .ok (.iaload, 1) := by decide +kernel
theorem dX12_unit_148 : decode cX12_unit 148 = .ok (.iload_n 2, 1) := by decide +kernel
theorem dX12_unit_149 : decode cX12_unit 149 = .ok (.if_icmp .eq 9, 3) := by decide +kernel
theorem dX12_unit_152 : decode cX12_unit 152 = .ok (.iinc 3 1, 3) := by decide +kernel
theorem dX12_unit_155 : decode cX12_unit 155 = .ok (.goto (-19), 3) := by decide +kernel
theorem dX12_unit_158 : decode cX12_unit 158 = .ok (.iload_n 3, 1) := by decide +kernel
theorem dX12_unit_159 : decode cX12_unit 159 = .ok (.bipush 9, 2) := by decide +kernel
theorem dX12_unit_161 : decode cX12_unit 161 = .ok (.if_icmp .ne 9, 3) := by decide +kernel
theorem dX12_unit_164 : decode cX12_unit 164 = .ok (.aload_n 0, 1) := by decide +kernel
theorem dX12_unit_165 : decode cX12_unit 165 = .ok (.iconst 1, 1) := by decide +kernel
theorem dX12_unit_166 : decode cX12_unit 166 = .ok (.putfield 242, 3) := by decide +kernel
theorem dX12_unit_169 : decode cX12_unit 169 = .ok (.return_, 1) := by decide +kernel
theorem dX12_unit_170 : decode cX12_unit 170 = .ok (.aload_n 0, 1) := by decide +kernel
theorem dX12_unit_171 : decode cX12_unit 171 = .ok (.dup, 1) := by decide +kernel
theorem dX12_unit_172 : decode cX12_unit 172 = .ok (.getfield 229, 3) := by decide +kernel
theorem dX12_unit_175 : decode cX12_unit 175 = .ok (.iconst 1, 1) := by decide +kernel
theorem dX12_unit_176 : decode cX12_unit 176 = .ok (.iadd, 1) := by decide +kernel
theorem dX12_unit_177 : decode cX12_unit 177 = .ok (.putfield 229, 3) := by decide +kernel
theorem dX12_unit_180 : decode cX12_unit 180 = .ok (.aload_n 0, 1) := by decide +kernel
theorem dX12_unit_181 : decode cX12_unit 181 = .ok (.iload_n 3, 1) := by decide +kernel
theorem dX12_unit_182 : decode cX12_unit 182 = .ok (.invokevirtual 250, 3) := by decide +kernel
theorem dX12_unit_185 : decode cX12_unit 185 = .ok (.return_, 1) := by decide +kernel
theorem dX12_compares_0 : decode cX12_compares 0 = .ok (.aload_n 0, 1) := by decide +kernel
theorem dX12_compares_1 : decode cX12_compares 1 = .ok (.invokevirtual 246, 3) := by decide +kernel
theorem dX12_compares_4 : decode cX12_compares 4 = .ok (.istore_n 2, 1) := by decide +kernel
theorem dX12_compares_5 : decode cX12_compares 5 = .ok (.aload_n 0, 1) := by decide +kernel
theorem dX12_compares_6 : decode cX12_compares 6 = .ok (.getfield 242, 3) := by decide +kernel
theorem dX12_compares_9 : decode cX12_compares 9 = .ok (.ifCond .ne 64, 3) := by decide +kernel
theorem dX12_compares_12 : decode cX12_compares 12 = .ok (.iload_n 2, 1) := by decide +kernel
theorem dX12_compares_13 : decode cX12_compares 13 = .ok (.bipush 60, 2) := by decide +kernel
theorem dX12_compares_15 : decode cX12_compares 15 = .ok (.if_icmp .eq 15, 3) := by decide +kernel
theorem dX12_compares_18 : decode cX12_compares 18 = .ok (.iload_n 2, 1) := by decide +kernel
theorem dX12_compares_19 : decode cX12_compares 19 = .ok (.bipush 61, 2) := by decide +kernel
theorem dX12_compares_21 : decode cX12_compares 21 = .ok (.if_icmp .eq 9, 3) := by decide +kernel
theorem dX12_compares_24 : decode cX12_compares 24 = .ok (.iload_n 2, 1) := by decide +kernel
theorem dX12_compares_25 : decode cX12_compares 25 = .ok (.bipush 62, 2) := by decide +kernel
theorem dX12_compares_27 : decode cX12_compares 27 = .ok (.if_icmp .ne 46, 3) := by decide +kernel
theorem dX12_compares_30 : decode cX12_compares 30 = .ok (.aload_n 0, 1) := by decide +kernel
theorem dX12_compares_31 : decode cX12_compares 31 = .ok (.dup, 1) := by decide +kernel
theorem dX12_compares_32 : decode cX12_compares 32 = .ok (.getfield 229, 3) := by decide +kernel
theorem dX12_compares_35 : decode cX12_compares 35 = .ok (.iconst 1, 1) := by decide +kernel
theorem dX12_compares_36 : decode cX12_compares 36 = .ok (.iadd, 1) := by decide +kernel
theorem dX12_compares_37 : decode cX12_compares 37 = .ok (.putfield 229, 3) := by decide +kernel
theorem dX12_compares_40 : decode cX12_compares 40 = .ok (.aload_n 0, 1) := by decide +kernel
theorem dX12_compares_41 : decode cX12_compares 41 = .ok (.iload_n 1, 1) := by decide +kernel
theorem dX12_compares_42 : decode cX12_compares 42 = .ok (.invokevirtual 260, 3) := by decide +kernel
theorem dX12_compares_45 : decode cX12_compares 45 = .ok (.aload_n 0, 1) := by decide +kernel
theorem dX12_compares_46 : decode cX12_compares 46 = .ok (.iload_n 2, 1) := by decide +kernel
theorem dX12_compares_47 : decode cX12_compares 47 = .ok (.bipush 60, 2) := by decide +kernel
theorem dX12_compares_49 : decode cX12_compares 49 = .ok (.if_icmp .ne 8, 3) := by decide +kernel
theorem dX12_compares_52 : decode cX12_compares 52 = .ok (.bipush 24, 2) := by decide +kernel
theorem dX12_compares_54 : decode cX12_compares 54 = .ok (.goto 16, 3) := by decide +kernel
theorem dX12_compares_57 : decode cX12_compares 57 = .ok (.iload_n 2, 1) := by decide +kernel
theorem dX12_compares_58 : decode cX12_compares 58 = .ok (.bipush 61, 2) := by decide +kernel
theorem dX12_compares_60 : decode cX12_compares 60 = .ok (.if_icmp .ne 8, 3) := by decide +kernel
theorem dX12_compares_63 : decode cX12_compares 63 = .ok (.bipush 25, 2) := by decide +kernel
theorem dX12_compares_65 : decode cX12_compares 65 = .ok (.goto 5, 3) := by decide +kernel
theorem dX12_compares_68 : decode cX12_compares 68 = .ok (.bipush 26, 2) := by decide +kernel
theorem dX12_compares_70 : decode cX12_compares 70 = .ok (.invokevirtual 250, 3) := by decide +kernel
theorem dX12_compares_73 : decode cX12_compares 73 = .ok (.aload_n 0, 1) := by decide +kernel
theorem dX12_compares_74 : decode cX12_compares 74 = .ok (.getfield 242, 3) := by decide +kernel
theorem dX12_compares_77 : decode cX12_compares 77 = .ok (.ifCond .ne 12, 3) := by decide +kernel
theorem dX12_compares_80 : decode cX12_compares 80 = .ok (.aload_n 0, 1) := by decide +kernel
theorem dX12_compares_81 : decode cX12_compares 81 = .ok (.invokevirtual 246, 3) := by decide +kernel
theorem dX12_compares_84 : decode cX12_compares 84 = .ok (.bipush 41, 2) := by decide +kernel
theorem dX12_compares_86 : decode cX12_compares 86 = .ok (.if_icmp .eq 9, 3) := by decide +kernel
theorem dX12_compares_89 : decode cX12_compares 89 = .ok (.aload_n 0, 1) := by decide +kernel
theorem dX12_compares_90 : decode cX12_compares 90 = .ok (.iconst 1, 1) := by decide +kernel
theorem dX12_compares_91 : decode cX12_compares 91 = .ok (.putfield 242, 3) := by decide +kernel
theorem dX12_compares_94 : decode cX12_compares 94 = .ok (.return_, 1) := by decide +kernel
theorem dX12_compares_95 : decode cX12_compares 95 = .ok (.aload_n 0, 1) := by decide +kernel
theorem dX12_compares_96 : decode cX12_compares 96 = .ok (.dup, 1) := by decide +kernel
theorem dX12_compares_97 : decode cX12_compares 97 = .ok (.getfield 229, 3) := by decide +kernel
theorem dX12_compares_100 : decode cX12_compares 100 = .ok (.iconst 1, 1) := by decide +kernel
theorem dX12_compares_101 : decode cX12_compares 101 = .ok (.iadd, 1) := by decide +kernel
theorem dX12_compares_102 : decode cX12_compares 102 = .ok (.putfield 229, 3) := by decide +kernel
theorem dX12_compares_105 : decode cX12_compares 105 = .ok (.return_, 1) := by decide +kernel
theorem dX12_rule_0 : decode cX12_rule 0 = .ok (.iload_n 1, 1) := by decide +kernel
theorem dX12_rule_1 : decode cX12_rule 1 = .ok (.i2l, 1) := by decide +kernel
theorem dX12_rule_2 : decode cX12_rule 2 = .ok (.lconst 0, 1) := by decide +kernel
theorem dX12_rule_3 : decode cX12_rule 3 = .ok (.lconst 1, 1) := by decide +kernel
theorem dX12_rule_4 : decode cX12_rule 4 = .ok (.invokestatic 157, 3) := by decide +kernel
theorem dX12_rule_7 : decode cX12_rule 7 = .ok (.ifCond .ne 10, 3) := by decide +kernel
theorem dX12_rule_10 : decode cX12_rule 10 = .ok (.aload_n 0, 1) := by decide +kernel
theorem dX12_rule_11 : decode cX12_rule 11 = .ok (.bipush (-2), 2) := by decide +kernel
theorem dX12_rule_13 : decode cX12_rule 13 = .ok (.invokevirtual 150, 3) := by decide +kernel
theorem dX12_rule_16 : decode cX12_rule 16 = .ok (.ireturn, 1) := by decide +kernel
theorem dX12_rule_17 : decode cX12_rule 17 = .ok (.iload_n 2, 1) := by decide +kernel
theorem dX12_rule_18 : decode cX12_rule 18 = .ok (.aload_n 0, 1) := by decide +kernel
theorem dX12_rule_19 : decode cX12_rule 19 = .ok (.getfield 167, 3) := by decide +kernel
theorem dX12_rule_22 : decode cX12_rule 22 = .ok (.bipush 24, 2) := by decide +kernel
theorem dX12_rule_24 : decode cX12_rule 24 = .ok (.idiv, 1) := by decide +kernel
theorem dX12_rule_25 : decode cX12_rule 25 = .ok (.if_icmp .ge 10, 3) := by decide +kernel
theorem dX12_rule_28 : decode cX12_rule 28 = .ok (.aload_n 0, 1) := by decide +kernel
theorem dX12_rule_29 : decode cX12_rule 29 = .ok (.bipush (-4), 2) := by decide +kernel
theorem dX12_rule_31 : decode cX12_rule 31 = .ok (.invokevirtual 150, 3) := by decide +kernel
theorem dX12_rule_34 : decode cX12_rule 34 = .ok (.ireturn, 1) := by decide +kernel
theorem dX12_rule_35 : decode cX12_rule 35 = .ok (.iload_n 2, 1) := by decide +kernel
theorem dX12_rule_36 : decode cX12_rule 36 = .ok (.sipush 333, 3) := by decide +kernel
theorem dX12_rule_39 : decode cX12_rule 39 = .ok (.if_icmp .gt 12, 3) := by decide +kernel
theorem dX12_rule_42 : decode cX12_rule 42 = .ok (.aload_n 0, 1) := by decide +kernel
theorem dX12_rule_43 : decode cX12_rule 43 = .ok (.getfield 232, 3) := by decide +kernel
theorem dX12_rule_46 : decode cX12_rule 46 = .ok (.bipush 30, 2) := by decide +kernel
theorem dX12_rule_48 : decode cX12_rule 48 = .ok (.if_icmp .ne 10, 3) := by decide +kernel
theorem dX12_rule_51 : decode cX12_rule 51 = .ok (.aload_n 0, 1) := by decide +kernel
theorem dX12_rule_52 : decode cX12_rule 52 = .ok (.bipush (-6), 2) := by decide +kernel
theorem dX12_rule_54 : decode cX12_rule 54 = .ok (.invokevirtual 150, 3) := by decide +kernel
theorem dX12_rule_57 : decode cX12_rule 57 = .ok (.ireturn, 1) := by decide +kernel
theorem dX12_rule_58 : decode cX12_rule 58 = .ok (.aload_n 0, 1) := by decide +kernel
theorem dX12_rule_59 : decode cX12_rule 59 = .ok (.iconst 0, 1) := by decide +kernel
theorem dX12_rule_60 : decode cX12_rule 60 = .ok (.putfield 229, 3) := by decide +kernel
theorem dX12_rule_63 : decode cX12_rule 63 = .ok (.aload_n 0, 1) := by decide +kernel
theorem dX12_rule_64 : decode cX12_rule 64 = .ok (.iconst 0, 1) := by decide +kernel
theorem dX12_rule_65 : decode cX12_rule 65 = .ok (.putfield 235, 3) := by decide +kernel
theorem dX12_rule_68 : decode cX12_rule 68 = .ok (.aload_n 0, 1) := by decide +kernel
theorem dX12_rule_69 : decode cX12_rule 69 = .ok (.iconst 0, 1) := by decide +kernel
theorem dX12_rule_70 : decode cX12_rule 70 = .ok (.putfield 242, 3) := by decide +kernel
theorem dX12_rule_73 : decode cX12_rule 73 = .ok (.aload_n 0, 1) := by decide +kernel
theorem dX12_rule_74 : decode cX12_rule 74 = .ok (.iconst 0, 1) := by decide +kernel
theorem dX12_rule_75 : decode cX12_rule 75 = .ok (.invokevirtual 260, 3) := by decide +kernel
theorem dX12_rule_78 : decode cX12_rule 78 = .ok (.aload_n 0, 1) := by decide +kernel
theorem dX12_rule_79 : decode cX12_rule 79 = .ok (.getfield 242, 3) := by decide +kernel
theorem dX12_rule_82 : decode cX12_rule 82 = .ok (.ifCond .ne 18, 3) := by decide +kernel
theorem dX12_rule_85 : decode cX12_rule 85 = .ok (.aload_n 0, 1) := by decide +kernel
theorem dX12_rule_86 : decode cX12_rule 86 = .ok (.getfield 229, 3) := by decide +kernel
theorem dX12_rule_89 : decode cX12_rule 89 = .ok (.aload_n 0, 1) := by decide +kernel
theorem dX12_rule_90 : decode cX12_rule 90 = .ok (.getfield 224, 3) := by decide +kernel
theorem dX12_rule_93 : decode cX12_rule 93 = .ok (.if_icmp .ne 7, 3) := by decide +kernel
theorem dX12_rule_96 : decode cX12_rule 96 = .ok (.iconst 1, 1) := by decide +kernel
theorem dX12_rule_97 : decode cX12_rule 97 = .ok (.goto 4, 3) := by decide +kernel
theorem dX12_rule_100 : decode cX12_rule 100 = .ok (.iconst 0, 1) := by decide +kernel
theorem dX12_rule_101 : decode cX12_rule 101 = .ok (.istore_n 3, 1) := by decide +kernel
theorem dX12_rule_102 : decode cX12_rule 102 = .ok (.aload_n 0, 1) := by decide +kernel
theorem dX12_rule_103 : decode cX12_rule 103 = .ok (.iconst 0, 1) := by decide +kernel
theorem dX12_rule_104 : decode cX12_rule 104 = .ok (.putfield 224, 3) := by decide +kernel
theorem dX12_rule_107 : decode cX12_rule 107 = .ok (.iload_n 3, 1) := by decide +kernel
theorem dX12_rule_108 : decode cX12_rule 108 = .ok (.ifCond .ne 11, 3) := by decide +kernel
theorem dX12_rule_111 : decode cX12_rule 111 = .ok (.bipush (-20), 2) := by decide +kernel
theorem dX12_rule_113 : decode cX12_rule 113 = .ok (.aload_n 0, 1) := by decide +kernel
theorem dX12_rule_114 : decode cX12_rule 114 = .ok (.getfield 229, 3) := by decide +kernel
theorem dX12_rule_117 : decode cX12_rule 117 = .ok (.isub, 1) := by decide +kernel
theorem dX12_rule_118 : decode cX12_rule 118 = .ok (.ireturn, 1) := by decide +kernel
theorem dX12_rule_119 : decode cX12_rule 119 = .ok (.aload_n 0, 1) := by decide +kernel
theorem dX12_rule_120 : decode cX12_rule 120 = .ok (.getfield 81, 3) := by decide +kernel
theorem dX12_rule_123 : decode cX12_rule 123 = .ok (.aload_n 0, 1) := by decide +kernel
theorem dX12_rule_124 : decode cX12_rule 124 = .ok (.getfield 232, 3) := by decide +kernel
theorem dX12_rule_127 : decode cX12_rule 127 = .ok (.iload_n 1, 1) := by decide +kernel
theorem dX12_rule_128 : decode cX12_rule 128 = .ok (.iastore, 1) := by decide +kernel
theorem dX12_rule_129 : decode cX12_rule 129 = .ok (.aload_n 0, 1) := by decide +kernel
theorem dX12_rule_130 : decode cX12_rule 130 = .ok (.getfield 84, 3) := by decide +kernel
theorem dX12_rule_133 : decode cX12_rule 133 = .ok (.aload_n 0, 1) := by decide +kernel
theorem dX12_rule_134 : decode cX12_rule 134 = .ok (.getfield 232, 3) := by decide +kernel
theorem dX12_rule_137 : decode cX12_rule 137 = .ok (.iload_n 2, 1) := by decide +kernel
theorem dX12_rule_138 : decode cX12_rule 138 = .ok (.iastore, 1) := by decide +kernel
theorem dX12_rule_139 : decode cX12_rule 139 = .ok (.aload_n 0, 1) := by decide +kernel
theorem dX12_rule_140 : decode cX12_rule 140 = .ok (.getfield 87, 3) := by decide +kernel
theorem dX12_rule_143 : decode cX12_rule 143 = .ok (.aload_n 0, 1) := by decide +kernel
theorem dX12_rule_144 : decode cX12_rule 144 = .ok (.getfield 232, 3) := by decide +kernel
theorem dX12_rule_147 : decode cX12_rule 147 = .ok (.aload_n 0, 1) := by decide +kernel
theorem dX12_rule_148 : decode cX12_rule 148 = .ok (.getfield 235, 3) := by decide +kernel
theorem dX12_rule_151 : decode cX12_rule 151 = .ok (.iastore, 1) := by decide +kernel
theorem dX12_rule_152 : decode cX12_rule 152 = .ok (.aload_n 0, 1) := by decide +kernel
theorem dX12_rule_153 : decode cX12_rule 153 = .ok (.dup, 1) := by decide +kernel
theorem dX12_rule_154 : decode cX12_rule 154 = .ok (.getfield 232, 3) := by decide +kernel
theorem dX12_rule_157 : decode cX12_rule 157 = .ok (.iconst 1, 1) := by decide +kernel
theorem dX12_rule_158 : decode cX12_rule 158 = .ok (.iadd, 1) := by decide +kernel
theorem dX12_rule_159 : decode cX12_rule 159 = .ok (.putfield 232, 3) := by decide +kernel
theorem dX12_rule_162 : decode cX12_rule 162 = .ok (.aload_n 0, 1) := by decide +kernel
theorem dX12_rule_163 : decode cX12_rule 163 = .ok (.getfield 232, 3) := by decide +kernel
theorem dX12_rule_166 : decode cX12_rule 166 = .ok (.ireturn, 1) := by decide +kernel
theorem dX12_two_0 : decode cX12_two 0 = .ok (.iload_n 0, 1) := by decide +kernel
theorem dX12_two_1 : decode cX12_two 1 = .ok (.tableswitch 89 20 25 #[39, 43, 47, 51, 65, 77], 39) := by decide +kernel
theorem dX12_two_40 : decode cX12_two 40 = .ok (.lload_n 1, 1) := by decide +kernel
theorem dX12_two_41 : decode cX12_two 41 = .ok (.lload_n 3, 1) := by decide +kernel
theorem dX12_two_42 : decode cX12_two 42 = .ok (.ladd, 1) := by decide +kernel
theorem dX12_two_43 : decode cX12_two 43 = .ok (.lreturn, 1) := by decide +kernel
theorem dX12_two_44 : decode cX12_two 44 = .ok (.lload_n 1, 1) := by decide +kernel
theorem dX12_two_45 : decode cX12_two 45 = .ok (.lload_n 3, 1) := by decide +kernel
theorem dX12_two_46 : decode cX12_two 46 = .ok (.lsub, 1) := by decide +kernel
theorem dX12_two_47 : decode cX12_two 47 = .ok (.lreturn, 1) := by decide +kernel
theorem dX12_two_48 : decode cX12_two 48 = .ok (.lload_n 1, 1) := by decide +kernel
theorem dX12_two_49 : decode cX12_two 49 = .ok (.lload_n 3, 1) := by decide +kernel
theorem dX12_two_50 : decode cX12_two 50 = .ok (.lmul, 1) := by decide +kernel
theorem dX12_two_51 : decode cX12_two 51 = .ok (.lreturn, 1) := by decide +kernel
theorem dX12_two_52 : decode cX12_two 52 = .ok (.lload_n 3, 1) := by decide +kernel
theorem dX12_two_53 : decode cX12_two 53 = .ok (.lconst 0, 1) := by decide +kernel
theorem dX12_two_54 : decode cX12_two 54 = .ok (.lcmp, 1) := by decide +kernel
theorem dX12_two_55 : decode cX12_two 55 = .ok (.ifCond .ne 7, 3) := by decide +kernel
theorem dX12_two_58 : decode cX12_two 58 = .ok (.lconst 0, 1) := by decide +kernel
theorem dX12_two_59 : decode cX12_two 59 = .ok (.goto 6, 3) := by decide +kernel
theorem dX12_two_62 : decode cX12_two 62 = .ok (.lload_n 1, 1) := by decide +kernel
theorem dX12_two_63 : decode cX12_two 63 = .ok (.lload_n 3, 1) := by decide +kernel
theorem dX12_two_64 : decode cX12_two 64 = .ok (.ldiv, 1) := by decide +kernel
theorem dX12_two_65 : decode cX12_two 65 = .ok (.lreturn, 1) := by decide +kernel
theorem dX12_two_66 : decode cX12_two 66 = .ok (.lload_n 1, 1) := by decide +kernel
theorem dX12_two_67 : decode cX12_two 67 = .ok (.lload_n 3, 1) := by decide +kernel
theorem dX12_two_68 : decode cX12_two 68 = .ok (.lcmp, 1) := by decide +kernel
theorem dX12_two_69 : decode cX12_two 69 = .ok (.ifCond .ge 7, 3) := by decide +kernel
theorem dX12_two_72 : decode cX12_two 72 = .ok (.lconst 1, 1) := by decide +kernel
theorem dX12_two_73 : decode cX12_two 73 = .ok (.goto 4, 3) := by decide +kernel
theorem dX12_two_76 : decode cX12_two 76 = .ok (.lconst 0, 1) := by decide +kernel
theorem dX12_two_77 : decode cX12_two 77 = .ok (.lreturn, 1) := by decide +kernel
theorem dX12_two_78 : decode cX12_two 78 = .ok (.lload_n 1, 1) := by decide +kernel
theorem dX12_two_79 : decode cX12_two 79 = .ok (.lload_n 3, 1) := by decide +kernel
theorem dX12_two_80 : decode cX12_two 80 = .ok (.lcmp, 1) := by decide +kernel
theorem dX12_two_81 : decode cX12_two 81 = .ok (.ifCond .ne 7, 3) := by decide +kernel
theorem dX12_two_84 : decode cX12_two 84 = .ok (.lconst 1, 1) := by decide +kernel
theorem dX12_two_85 : decode cX12_two 85 = .ok (.goto 4, 3) := by decide +kernel
theorem dX12_two_88 : decode cX12_two 88 = .ok (.lconst 0, 1) := by decide +kernel
theorem dX12_two_89 : decode cX12_two 89 = .ok (.lreturn, 1) := by decide +kernel
theorem dX12_two_90 : decode cX12_two 90 = .ok (.lload_n 1, 1) := by decide +kernel
theorem dX12_two_91 : decode cX12_two 91 = .ok (.lload_n 3, 1) := by decide +kernel
theorem dX12_two_92 : decode cX12_two 92 = .ok (.lcmp, 1) := by decide +kernel
theorem dX12_two_93 : decode cX12_two 93 = .ok (.ifCond .le 7, 3) := by decide +kernel
theorem dX12_two_96 : decode cX12_two 96 = .ok (.lconst 1, 1) := by decide +kernel
theorem dX12_two_97 : decode cX12_two 97 = .ok (.goto 4, 3) := by decide +kernel
theorem dX12_two_100 : decode cX12_two 100 = .ok (.lconst 0, 1) := by decide +kernel
theorem dX12_two_101 : decode cX12_two 101 = .ok (.lreturn, 1) := by decide +kernel
theorem dX12_worth_0 : decode cX12_worth 0 = .ok (.iconst 0, 1) := by decide +kernel
theorem dX12_worth_1 : decode cX12_worth 1 = .ok (.istore_n 2, 1) := by decide +kernel
theorem dX12_worth_2 : decode cX12_worth 2 = .ok (.bipush 62, 2) := by decide +kernel
theorem dX12_worth_4 : decode cX12_worth 4 = .ok (.iload_n 1, 1) := by decide +kernel
theorem dX12_worth_5 : decode cX12_worth 5 = .ok (.imul, 1) := by decide +kernel
theorem dX12_worth_6 : decode cX12_worth 6 = .ok (.istore_n 3, 1) := by decide +kernel
theorem dX12_worth_7 : decode cX12_worth 7 = .ok (.iload_n 3, 1) := by decide +kernel
theorem dX12_worth_8 : decode cX12_worth 8 = .ok (.bipush 62, 2) := by decide +kernel
theorem dX12_worth_10 : decode cX12_worth 10 = .ok (.iload_n 1, 1) := by decide +kernel
theorem dX12_worth_11 : decode cX12_worth 11 = .ok (.imul, 1) := by decide +kernel
theorem dX12_worth_12 : decode cX12_worth 12 = .ok (.aload_n 0, 1) := by decide +kernel
theorem dX12_worth_13 : decode cX12_worth 13 = .ok (.getfield 87, 3) := by decide +kernel
theorem dX12_worth_16 : decode cX12_worth 16 = .ok (.iload_n 1, 1) := by decide +kernel
theorem dX12_worth_17 : decode cX12_worth 17 = .ok (.iaload, 1) := by decide +kernel
theorem dX12_worth_18 : decode cX12_worth 18 = .ok (.iadd, 1) := by decide +kernel
theorem dX12_worth_19 : decode cX12_worth 19 = .ok (.if_icmp .ge 123, 3) := by decide +kernel
theorem dX12_worth_22 : decode cX12_worth 22 = .ok (.aload_n 0, 1) := by decide +kernel
theorem dX12_worth_23 : decode cX12_worth 23 = .ok (.getfield 90, 3) := by decide +kernel
theorem dX12_worth_26 : decode cX12_worth 26 = .ok (.iload_n 3, 1) := by decide +kernel
theorem dX12_worth_27 : decode cX12_worth 27 = .ok (.iaload, 1) := by decide +kernel
theorem dX12_worth_28 : decode cX12_worth 28 = .ok (.sipush 1000, 3) := by decide +kernel
theorem dX12_worth_31 : decode cX12_worth 31 = .ok (.if_icmp .ge 14, 3) := by decide +kernel
theorem dX12_worth_34 : decode cX12_worth 34 = .ok (.aload_n 0, 1) := by decide +kernel
theorem dX12_worth_35 : decode cX12_worth 35 = .ok (.getfield 90, 3) := by decide +kernel
theorem dX12_worth_38 : decode cX12_worth 38 = .ok (.iload_n 3, 1) := by decide +kernel
theorem dX12_worth_39 : decode cX12_worth 39 = .ok (.iaload, 1) := by decide +kernel
theorem dX12_worth_40 : decode cX12_worth 40 = .ok (.bipush 9, 2) := by decide +kernel
theorem dX12_worth_42 : decode cX12_worth 42 = .ok (.if_icmp .ge 51, 3) := by decide +kernel
theorem dX12_worth_45 : decode cX12_worth 45 = .ok (.aload_n 0, 1) := by decide +kernel
theorem dX12_worth_46 : decode cX12_worth 46 = .ok (.getfield 112, 3) := by decide +kernel
theorem dX12_worth_49 : decode cX12_worth 49 = .ok (.iload_n 2, 1) := by decide +kernel
theorem dX12_worth_50 : decode cX12_worth 50 = .ok (.aload_n 0, 1) := by decide +kernel
theorem dX12_worth_51 : decode cX12_worth 51 = .ok (.getfield 90, 3) := by decide +kernel
theorem dX12_worth_54 : decode cX12_worth 54 = .ok (.iload_n 3, 1) := by decide +kernel
theorem dX12_worth_55 : decode cX12_worth 55 = .ok (.iaload, 1) := by decide +kernel
theorem dX12_worth_56 : decode cX12_worth 56 = .ok (.bipush 9, 2) := by decide +kernel
theorem dX12_worth_58 : decode cX12_worth 58 = .ok (.if_icmp .ge 17, 3) := by decide +kernel
theorem dX12_worth_61 : decode cX12_worth 61 = .ok (.aload_n 0, 1) := by decide +kernel
theorem dX12_worth_62 : decode cX12_worth 62 = .ok (.getfield 109, 3) := by decide +kernel
theorem dX12_worth_65 : decode cX12_worth 65 = .ok (.aload_n 0, 1) := by decide +kernel
theorem dX12_worth_66 : decode cX12_worth 66 = .ok (.getfield 90, 3) := by decide +kernel
theorem dX12_worth_69 : decode cX12_worth 69 = .ok (.iload_n 3, 1) := by decide +kernel
theorem dX12_worth_70 : decode cX12_worth 70 = .ok (.iaload, 1) := by decide +kernel
theorem dX12_worth_71 : decode cX12_worth 71 = .ok (.laload, 1) := by decide +kernel
theorem dX12_worth_72 : decode cX12_worth 72 = .ok (.goto 14, 3) := by decide +kernel
theorem dX12_worth_75 : decode cX12_worth 75 = .ok (.aload_n 0, 1) := by decide +kernel
theorem dX12_worth_76 : decode cX12_worth 76 = .ok (.getfield 90, 3) := by decide +kernel
theorem dX12_worth_79 : decode cX12_worth 79 = .ok (.iload_n 3, 1) := by decide +kernel
theorem dX12_worth_80 : decode cX12_worth 80 = .ok (.iaload, 1) := by decide +kernel
theorem dX12_worth_81 : decode cX12_worth 81 = .ok (.sipush 1000, 3) := by decide +kernel
theorem dX12_worth_84 : decode cX12_worth 84 = .ok (.isub, 1) := by decide +kernel
theorem dX12_worth_85 : decode cX12_worth 85 = .ok (.i2l, 1) := by decide +kernel
theorem dX12_worth_86 : decode cX12_worth 86 = .ok (.lastore, 1) := by decide +kernel
theorem dX12_worth_87 : decode cX12_worth 87 = .ok (.iinc 2 1, 3) := by decide +kernel
theorem dX12_worth_90 : decode cX12_worth 90 = .ok (.goto 46, 3) := by decide +kernel
theorem dX12_worth_93 : decode cX12_worth 93 = .ok (.iinc 2 (-1), 3) := by decide +kernel
theorem dX12_worth_96 : decode cX12_worth 96 = .ok (.aload_n 0, 1) := by decide +kernel
theorem dX12_worth_97 : decode cX12_worth 97 = .ok (.getfield 112, 3) := by decide +kernel
theorem dX12_worth_100 : decode cX12_worth 100 = .ok (.iload_n 2, 1) := by decide +kernel
theorem dX12_worth_101 : decode cX12_worth 101 = .ok (.iconst 1, 1) := by decide +kernel
theorem dX12_worth_102 : decode cX12_worth 102 = .ok (.isub, 1) := by decide +kernel
theorem dX12_worth_103 : decode cX12_worth 103 = .ok (.aload_n 0, 1) := by decide +kernel
theorem dX12_worth_104 : decode cX12_worth 104 = .ok (.getfield 90, 3) := by decide +kernel
theorem dX12_worth_107 : decode cX12_worth 107 = .ok (.iload_n 3, 1) := by decide +kernel
theorem dX12_worth_108 : decode cX12_worth 108 = .ok (.iaload, 1) := by decide +kernel
theorem dX12_worth_109 : decode cX12_worth 109 = .ok (.aload_n 0, 1) := by decide +kernel
theorem dX12_worth_110 : decode cX12_worth 110 = .ok (.getfield 112, 3) := by decide +kernel
theorem dX12_worth_113 : decode cX12_worth 113 = .ok (.iload_n 2, 1) := by decide +kernel
theorem dX12_worth_114 : decode cX12_worth 114 = .ok (.iconst 1, 1) := by decide +kernel
theorem dX12_worth_115 : decode cX12_worth 115 = .ok (.isub, 1) := by decide +kernel
theorem dX12_worth_116 : decode cX12_worth 116 = .ok (.laload, 1) := by decide +kernel
theorem dX12_worth_117 : decode cX12_worth 117 = .ok (.aload_n 0, 1) := by decide +kernel
theorem dX12_worth_118 : decode cX12_worth 118 = .ok (.getfield 112, 3) := by decide +kernel
theorem dX12_worth_121 : decode cX12_worth 121 = .ok (.iload_n 2, 1) := by decide +kernel
theorem dX12_worth_122 : decode cX12_worth 122 = .ok (.laload, 1) := by decide +kernel
theorem dX12_worth_123 : decode cX12_worth 123 = .ok (.invokestatic 266, 3) := by decide +kernel
theorem dX12_worth_126 : decode cX12_worth 126 = .ok (.ldc2_w 270, 3) := by decide +kernel
theorem dX12_worth_129 : decode cX12_worth 129 = .ok (.ldc2_w 272, 3) := by decide +kernel
theorem dX12_worth_132 : decode cX12_worth 132 = .ok (.invokestatic 274, 3) := by decide +kernel
theorem dX12_worth_135 : decode cX12_worth 135 = .ok (.lastore, 1) := by decide +kernel
theorem dX12_worth_136 : decode cX12_worth 136 = .ok (.iinc 3 1, 3) := by decide +kernel
theorem dX12_worth_139 : decode cX12_worth 139 = .ok (.goto (-132), 3) := by decide +kernel
theorem dX12_worth_142 : decode cX12_worth 142 = .ok (.aload_n 0, 1) := by decide +kernel
theorem dX12_worth_143 : decode cX12_worth 143 = .ok (.getfield 112, 3) := by decide +kernel
theorem dX12_worth_146 : decode cX12_worth 146 = .ok (.iconst 0, 1) := by decide +kernel
theorem dX12_worth_147 : decode cX12_worth 147 = .ok (.laload, 1) := by decide +kernel
theorem dX12_worth_148 : decode cX12_worth 148 = .ok (.lreturn, 1) := by decide +kernel
theorem dX12_mayOf_0 : decode cX12_mayOf 0 = .ok (.aload_n 0, 1) := by decide +kernel
theorem dX12_mayOf_1 : decode cX12_mayOf 1 = .ok (.getfield 167, 3) := by decide +kernel
theorem dX12_mayOf_4 : decode cX12_mayOf 4 = .ok (.bipush 24, 2) := by decide +kernel
theorem dX12_mayOf_6 : decode cX12_mayOf 6 = .ok (.idiv, 1) := by decide +kernel
theorem dX12_mayOf_7 : decode cX12_mayOf 7 = .ok (.istore_n 3, 1) := by decide +kernel
theorem dX12_mayOf_8 : decode cX12_mayOf 8 = .ok (.iconst (-1), 1) := by decide +kernel
theorem dX12_mayOf_9 : decode cX12_mayOf 9 = .ok (.istore 4, 2) := by decide +kernel
theorem dX12_mayOf_11 : decode cX12_mayOf 11 = .ok (.iconst 0, 1) := by decide +kernel
theorem dX12_mayOf_12 : decode cX12_mayOf 12 = .ok (.istore 5, 2) := by decide +kernel
theorem dX12_mayOf_14 : decode cX12_mayOf 14 = .ok (.iload 5, 2) := by decide +kernel
theorem dX12_mayOf_16 : decode cX12_mayOf 16 = .ok (.aload_n 0, 1) := by decide +kernel
theorem dX12_mayOf_17 : decode cX12_mayOf 17 = .ok (.getfield 232, 3) := by decide +kernel
theorem dX12_mayOf_20 : decode cX12_mayOf 20 = .ok (.if_icmp .ge 74, 3) := by decide +kernel
theorem dX12_mayOf_23 : decode cX12_mayOf 23 = .ok (.aload_n 0, 1) := by decide +kernel
theorem dX12_mayOf_24 : decode cX12_mayOf 24 = .ok (.getfield 81, 3) := by decide +kernel
theorem dX12_mayOf_27 : decode cX12_mayOf 27 = .ok (.iload 5, 2) := by decide +kernel
theorem dX12_mayOf_29 : decode cX12_mayOf 29 = .ok (.iaload, 1) := by decide +kernel
theorem dX12_mayOf_30 : decode cX12_mayOf 30 = .ok (.iload_n 2, 1) := by decide +kernel
theorem dX12_mayOf_31 : decode cX12_mayOf 31 = .ok (.if_icmp .ne 18, 3) := by decide +kernel
theorem dX12_mayOf_34 : decode cX12_mayOf 34 = .ok (.aload_n 0, 1) := by decide +kernel
theorem dX12_mayOf_35 : decode cX12_mayOf 35 = .ok (.getfield 84, 3) := by decide +kernel
theorem dX12_mayOf_38 : decode cX12_mayOf 38 = .ok (.iload 5, 2) := by decide +kernel
theorem dX12_mayOf_40 : decode cX12_mayOf 40 = .ok (.iaload, 1) := by decide +kernel
theorem dX12_mayOf_41 : decode cX12_mayOf 41 = .ok (.iload_n 3, 1) := by decide +kernel
theorem dX12_mayOf_42 : decode cX12_mayOf 42 = .ok (.if_icmp .gt 7, 3) := by decide +kernel
theorem dX12_mayOf_45 : decode cX12_mayOf 45 = .ok (.iconst 1, 1) := by decide +kernel
theorem dX12_mayOf_46 : decode cX12_mayOf 46 = .ok (.goto 4, 3) := by decide +kernel
theorem dX12_mayOf_49 : decode cX12_mayOf 49 = .ok (.iconst 0, 1) := by decide +kernel
theorem dX12_mayOf_50 : decode cX12_mayOf 50 = .ok (.istore 6, 2) := by decide +kernel
theorem dX12_mayOf_52 : decode cX12_mayOf 52 = .ok (.iload 6, 2) := by decide +kernel
theorem dX12_mayOf_54 : decode cX12_mayOf 54 = .ok (.ifCond .eq 30, 3) := by decide +kernel
theorem dX12_mayOf_57 : decode cX12_mayOf 57 = .ok (.iload 4, 2) := by decide +kernel
theorem dX12_mayOf_59 : decode cX12_mayOf 59 = .ok (.ifCond .lt 20, 3) := by decide +kernel
theorem dX12_mayOf_62 : decode cX12_mayOf 62 = .ok (.aload_n 0, 1) := by decide +kernel
theorem dX12_mayOf_63 : decode cX12_mayOf 63 = .ok (.getfield 84, 3) := by decide +kernel
theorem dX12_mayOf_66 : decode cX12_mayOf 66 = .ok (.iload 5, 2) := by decide +kernel
theorem dX12_mayOf_68 : decode cX12_mayOf 68 = .ok (.iaload, 1) := by decide +kernel
theorem dX12_mayOf_69 : decode cX12_mayOf 69 = .ok (.aload_n 0, 1) := by decide +kernel
theorem dX12_mayOf_70 : decode cX12_mayOf 70 = .ok (.getfield 84, 3) := by decide +kernel
theorem dX12_mayOf_73 : decode cX12_mayOf 73 = .ok (.iload 4, 2) := by decide +kernel
theorem dX12_mayOf_75 : decode cX12_mayOf 75 = .ok (.iaload, 1) := by decide +kernel
theorem dX12_mayOf_76 : decode cX12_mayOf 76 = .ok (.if_icmp .lt 8, 3) := by decide +kernel
theorem dX12_mayOf_79 : decode cX12_mayOf 79 = .ok (.iload 5, 2) := by decide +kernel
theorem dX12_mayOf_81 : decode cX12_mayOf 81 = .ok (.goto 5, 3) := by decide +kernel
theorem dX12_mayOf_84 : decode cX12_mayOf 84 = .ok (.iload 4, 2) := by decide +kernel
theorem dX12_mayOf_86 : decode cX12_mayOf 86 = .ok (.istore 4, 2) := by decide +kernel
theorem dX12_mayOf_88 : decode cX12_mayOf 88 = .ok (.iinc 5 1, 3) := by decide +kernel
theorem dX12_mayOf_91 : decode cX12_mayOf 91 = .ok (.goto (-77), 3) := by decide +kernel
theorem dX12_mayOf_94 : decode cX12_mayOf 94 = .ok (.iload 4, 2) := by decide +kernel
theorem dX12_mayOf_96 : decode cX12_mayOf 96 = .ok (.ifCond .ge 5, 3) := by decide +kernel
theorem dX12_mayOf_99 : decode cX12_mayOf 99 = .ok (.lconst 0, 1) := by decide +kernel
theorem dX12_mayOf_100 : decode cX12_mayOf 100 = .ok (.lreturn, 1) := by decide +kernel
theorem dX12_mayOf_101 : decode cX12_mayOf 101 = .ok (.aload_n 0, 1) := by decide +kernel
theorem dX12_mayOf_102 : decode cX12_mayOf 102 = .ok (.getfield 109, 3) := by decide +kernel
theorem dX12_mayOf_105 : decode cX12_mayOf 105 = .ok (.iconst 0, 1) := by decide +kernel
theorem dX12_mayOf_106 : decode cX12_mayOf 106 = .ok (.aload_n 0, 1) := by decide +kernel
theorem dX12_mayOf_107 : decode cX12_mayOf 107 = .ok (.getfield 167, 3) := by decide +kernel
theorem dX12_mayOf_110 : decode cX12_mayOf 110 = .ok (.bipush 24, 2) := by decide +kernel
theorem dX12_mayOf_112 : decode cX12_mayOf 112 = .ok (.irem, 1) := by decide +kernel
theorem dX12_mayOf_113 : decode cX12_mayOf 113 = .ok (.i2l, 1) := by decide +kernel
theorem dX12_mayOf_114 : decode cX12_mayOf 114 = .ok (.lastore, 1) := by decide +kernel
theorem dX12_mayOf_115 : decode cX12_mayOf 115 = .ok (.aload_n 0, 1) := by decide +kernel
theorem dX12_mayOf_116 : decode cX12_mayOf 116 = .ok (.getfield 109, 3) := by decide +kernel
theorem dX12_mayOf_119 : decode cX12_mayOf 119 = .ok (.iconst 1, 1) := by decide +kernel
theorem dX12_mayOf_120 : decode cX12_mayOf 120 = .ok (.iload_n 3, 1) := by decide +kernel
theorem dX12_mayOf_121 : decode cX12_mayOf 121 = .ok (.i2l, 1) := by decide +kernel
theorem dX12_mayOf_122 : decode cX12_mayOf 122 = .ok (.lastore, 1) := by decide +kernel
theorem dX12_mayOf_123 : decode cX12_mayOf 123 = .ok (.aload_n 0, 1) := by decide +kernel
theorem dX12_mayOf_124 : decode cX12_mayOf 124 = .ok (.getfield 109, 3) := by decide +kernel
theorem dX12_mayOf_127 : decode cX12_mayOf 127 = .ok (.iconst 2, 1) := by decide +kernel
theorem dX12_mayOf_128 : decode cX12_mayOf 128 = .ok (.aload_n 0, 1) := by decide +kernel
theorem dX12_mayOf_129 : decode cX12_mayOf 129 = .ok (.getfield 72, 3) := by decide +kernel
theorem dX12_mayOf_132 : decode cX12_mayOf 132 = .ok (.aload_n 0, 1) := by decide +kernel
theorem dX12_mayOf_133 : decode cX12_mayOf 133 = .ok (.getfield 167, 3) := by decide +kernel
theorem dX12_mayOf_136 : decode cX12_mayOf 136 = .ok (.bipush 24, 2) := by decide +kernel
theorem dX12_mayOf_138 : decode cX12_mayOf 138 = .ok (.irem, 1) := by decide +kernel
theorem dX12_mayOf_139 : decode cX12_mayOf 139 = .ok (.iaload, 1) := by decide +kernel
theorem dX12_mayOf_140 : decode cX12_mayOf 140 = .ok (.i2l, 1) := by decide +kernel
theorem dX12_mayOf_141 : decode cX12_mayOf 141 = .ok (.lastore, 1) := by decide +kernel
theorem dX12_mayOf_142 : decode cX12_mayOf 142 = .ok (.aload_n 0, 1) := by decide +kernel
theorem dX12_mayOf_143 : decode cX12_mayOf 143 = .ok (.getfield 109, 3) := by decide +kernel
theorem dX12_mayOf_146 : decode cX12_mayOf 146 = .ok (.iconst 3, 1) := by decide +kernel
theorem dX12_mayOf_147 : decode cX12_mayOf 147 = .ok (.aload_n 0, 1) := by decide +kernel
