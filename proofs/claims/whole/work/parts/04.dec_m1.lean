theorem dX12_mayOf_148 : decode cX12_mayOf 148 = .ok (.getfield 63, 3) := by decide +kernel
theorem dX12_mayOf_151 : decode cX12_mayOf 151 = .ok (.iload_n 3, 1) := by decide +kernel
theorem dX12_mayOf_152 : decode cX12_mayOf 152 = .ok (.bipush 12, 2) := by decide +kernel
theorem dX12_mayOf_154 : decode cX12_mayOf 154 = .ok (.irem, 1) := by decide +kernel
theorem dX12_mayOf_155 : decode cX12_mayOf 155 = .ok (.iaload, 1) := by decide +kernel
theorem dX12_mayOf_156 : decode cX12_mayOf 156 = .ok (.i2l, 1) := by decide +kernel
theorem dX12_mayOf_157 : decode cX12_mayOf 157 = .ok (.lastore, 1) := by decide +kernel
theorem dX12_mayOf_158 : decode cX12_mayOf 158 = .ok (.aload_n 0, 1) := by decide +kernel
theorem dX12_mayOf_159 : decode cX12_mayOf 159 = .ok (.getfield 109, 3) := by decide +kernel
theorem dX12_mayOf_162 : decode cX12_mayOf 162 = .ok (.iconst 4, 1) := by decide +kernel
theorem dX12_mayOf_163 : decode cX12_mayOf 163 = .ok (.aload_n 0, 1) := by decide +kernel
theorem dX12_mayOf_164 : decode cX12_mayOf 164 = .ok (.aload_n 0, 1) := by decide +kernel
theorem dX12_mayOf_165 : decode cX12_mayOf 165 = .ok (.getfield 167, 3) := by decide +kernel
theorem dX12_mayOf_168 : decode cX12_mayOf 168 = .ok (.invokevirtual 205, 3) := by decide +kernel
theorem dX12_mayOf_171 : decode cX12_mayOf 171 = .ok (.lastore, 1) := by decide +kernel
theorem dX12_mayOf_172 : decode cX12_mayOf 172 = .ok (.aload_n 0, 1) := by decide +kernel
theorem dX12_mayOf_173 : decode cX12_mayOf 173 = .ok (.getfield 109, 3) := by decide +kernel
theorem dX12_mayOf_176 : decode cX12_mayOf 176 = .ok (.iconst 5, 1) := by decide +kernel
theorem dX12_mayOf_177 : decode cX12_mayOf 177 = .ok (.aload_n 0, 1) := by decide +kernel
theorem dX12_mayOf_178 : decode cX12_mayOf 178 = .ok (.iload_n 1, 1) := by decide +kernel
theorem dX12_mayOf_179 : decode cX12_mayOf 179 = .ok (.iconst 0, 1) := by decide +kernel
theorem dX12_mayOf_180 : decode cX12_mayOf 180 = .ok (.invokevirtual 192, 3) := by decide +kernel
theorem dX12_mayOf_183 : decode cX12_mayOf 183 = .ok (.ldc2_w 165, 3) := by decide +kernel
theorem dX12_mayOf_186 : decode cX12_mayOf 186 = .ok (.ldiv, 1) := by decide +kernel
theorem dX12_mayOf_187 : decode cX12_mayOf 187 = .ok (.lastore, 1) := by decide +kernel
theorem dX12_mayOf_188 : decode cX12_mayOf 188 = .ok (.aload_n 0, 1) := by decide +kernel
theorem dX12_mayOf_189 : decode cX12_mayOf 189 = .ok (.getfield 109, 3) := by decide +kernel
theorem dX12_mayOf_192 : decode cX12_mayOf 192 = .ok (.bipush 6, 2) := by decide +kernel
theorem dX12_mayOf_194 : decode cX12_mayOf 194 = .ok (.aload_n 0, 1) := by decide +kernel
theorem dX12_mayOf_195 : decode cX12_mayOf 195 = .ok (.iload_n 1, 1) := by decide +kernel
theorem dX12_mayOf_196 : decode cX12_mayOf 196 = .ok (.aload_n 0, 1) := by decide +kernel
theorem dX12_mayOf_197 : decode cX12_mayOf 197 = .ok (.getfield 19, 3) := by decide +kernel
theorem dX12_mayOf_200 : decode cX12_mayOf 200 = .ok (.iload_n 1, 1) := by decide +kernel
theorem dX12_mayOf_201 : decode cX12_mayOf 201 = .ok (.iaload, 1) := by decide +kernel
theorem dX12_mayOf_202 : decode cX12_mayOf 202 = .ok (.iconst 1, 1) := by decide +kernel
theorem dX12_mayOf_203 : decode cX12_mayOf 203 = .ok (.isub, 1) := by decide +kernel
theorem dX12_mayOf_204 : decode cX12_mayOf 204 = .ok (.invokevirtual 192, 3) := by decide +kernel
theorem dX12_mayOf_207 : decode cX12_mayOf 207 = .ok (.ldc2_w 165, 3) := by decide +kernel
theorem dX12_mayOf_210 : decode cX12_mayOf 210 = .ok (.ldiv, 1) := by decide +kernel
theorem dX12_mayOf_211 : decode cX12_mayOf 211 = .ok (.lastore, 1) := by decide +kernel
theorem dX12_mayOf_212 : decode cX12_mayOf 212 = .ok (.aload_n 0, 1) := by decide +kernel
theorem dX12_mayOf_213 : decode cX12_mayOf 213 = .ok (.getfield 109, 3) := by decide +kernel
theorem dX12_mayOf_216 : decode cX12_mayOf 216 = .ok (.bipush 7, 2) := by decide +kernel
theorem dX12_mayOf_218 : decode cX12_mayOf 218 = .ok (.iload_n 1, 1) := by decide +kernel
theorem dX12_mayOf_219 : decode cX12_mayOf 219 = .ok (.i2l, 1) := by decide +kernel
theorem dX12_mayOf_220 : decode cX12_mayOf 220 = .ok (.lastore, 1) := by decide +kernel
theorem dX12_mayOf_221 : decode cX12_mayOf 221 = .ok (.aload_n 0, 1) := by decide +kernel
theorem dX12_mayOf_222 : decode cX12_mayOf 222 = .ok (.getfield 109, 3) := by decide +kernel
theorem dX12_mayOf_225 : decode cX12_mayOf 225 = .ok (.bipush 8, 2) := by decide +kernel
theorem dX12_mayOf_227 : decode cX12_mayOf 227 = .ok (.aload_n 0, 1) := by decide +kernel
theorem dX12_mayOf_228 : decode cX12_mayOf 228 = .ok (.getfield 28, 3) := by decide +kernel
theorem dX12_mayOf_231 : decode cX12_mayOf 231 = .ok (.iload_n 1, 1) := by decide +kernel
theorem dX12_mayOf_232 : decode cX12_mayOf 232 = .ok (.iaload, 1) := by decide +kernel
theorem dX12_mayOf_233 : decode cX12_mayOf 233 = .ok (.i2l, 1) := by decide +kernel
theorem dX12_mayOf_234 : decode cX12_mayOf 234 = .ok (.lastore, 1) := by decide +kernel
theorem dX12_mayOf_235 : decode cX12_mayOf 235 = .ok (.iconst 0, 1) := by decide +kernel
theorem dX12_mayOf_236 : decode cX12_mayOf 236 = .ok (.istore 5, 2) := by decide +kernel
theorem dX12_mayOf_238 : decode cX12_mayOf 238 = .ok (.iload 5, 2) := by decide +kernel
theorem dX12_mayOf_240 : decode cX12_mayOf 240 = .ok (.bipush 9, 2) := by decide +kernel
theorem dX12_mayOf_242 : decode cX12_mayOf 242 = .ok (.if_icmp .ge 32, 3) := by decide +kernel
theorem dX12_mayOf_245 : decode cX12_mayOf 245 = .ok (.aload_n 0, 1) := by decide +kernel
theorem dX12_mayOf_246 : decode cX12_mayOf 246 = .ok (.getfield 109, 3) := by decide +kernel
theorem dX12_mayOf_249 : decode cX12_mayOf 249 = .ok (.iload 5, 2) := by decide +kernel
theorem dX12_mayOf_251 : decode cX12_mayOf 251 = .ok (.aload_n 0, 1) := by decide +kernel
theorem dX12_mayOf_252 : decode cX12_mayOf 252 = .ok (.getfield 109, 3) := by decide +kernel
theorem dX12_mayOf_255 : decode cX12_mayOf 255 = .ok (.iload 5, 2) := by decide +kernel
theorem dX12_mayOf_257 : decode cX12_mayOf 257 = .ok (.laload, 1) := by decide +kernel
theorem dX12_mayOf_258 : decode cX12_mayOf 258 = .ok (.ldc2_w 270, 3) := by decide +kernel
theorem dX12_mayOf_261 : decode cX12_mayOf 261 = .ok (.ldc2_w 272, 3) := by decide +kernel
theorem dX12_mayOf_264 : decode cX12_mayOf 264 = .ok (.invokestatic 274, 3) := by decide +kernel
theorem dX12_mayOf_267 : decode cX12_mayOf 267 = .ok (.lastore, 1) := by decide +kernel
theorem dX12_mayOf_268 : decode cX12_mayOf 268 = .ok (.iinc 5 1, 3) := by decide +kernel
theorem dX12_mayOf_271 : decode cX12_mayOf 271 = .ok (.goto (-33), 3) := by decide +kernel
theorem dX12_mayOf_274 : decode cX12_mayOf 274 = .ok (.aload_n 0, 1) := by decide +kernel
theorem dX12_mayOf_275 : decode cX12_mayOf 275 = .ok (.iload 4, 2) := by decide +kernel
theorem dX12_mayOf_277 : decode cX12_mayOf 277 = .ok (.invokevirtual 278, 3) := by decide +kernel
theorem dX12_mayOf_280 : decode cX12_mayOf 280 = .ok (.lconst 0, 1) := by decide +kernel
theorem dX12_mayOf_281 : decode cX12_mayOf 281 = .ok (.ldc2_w 281, 3) := by decide +kernel
theorem dX12_mayOf_284 : decode cX12_mayOf 284 = .ok (.invokestatic 274, 3) := by decide +kernel
theorem dX12_mayOf_287 : decode cX12_mayOf 287 = .ok (.lreturn, 1) := by decide +kernel
theorem dX12_may_0 : decode cX12_may 0 = .ok (.aload_n 0, 1) := by decide +kernel
theorem dX12_may_1 : decode cX12_may 1 = .ok (.iload_n 1, 1) := by decide +kernel
theorem dX12_may_2 : decode cX12_may 2 = .ok (.invokevirtual 177, 3) := by decide +kernel
theorem dX12_may_5 : decode cX12_may 5 = .ok (.ifCond .ne 11, 3) := by decide +kernel
theorem dX12_may_8 : decode cX12_may 8 = .ok (.aload_n 0, 1) := by decide +kernel
theorem dX12_may_9 : decode cX12_may 9 = .ok (.iconst (-1), 1) := by decide +kernel
theorem dX12_may_10 : decode cX12_may 10 = .ok (.invokevirtual 150, 3) := by decide +kernel
theorem dX12_may_13 : decode cX12_may 13 = .ok (.goto 29, 3) := by decide +kernel
theorem dX12_may_16 : decode cX12_may 16 = .ok (.iload_n 2, 1) := by decide +kernel
theorem dX12_may_17 : decode cX12_may 17 = .ok (.i2l, 1) := by decide +kernel
theorem dX12_may_18 : decode cX12_may 18 = .ok (.lconst 0, 1) := by decide +kernel
theorem dX12_may_19 : decode cX12_may 19 = .ok (.lconst 1, 1) := by decide +kernel
theorem dX12_may_20 : decode cX12_may 20 = .ok (.invokestatic 157, 3) := by decide +kernel
theorem dX12_may_23 : decode cX12_may 23 = .ok (.ifCond .eq 13, 3) := by decide +kernel
theorem dX12_may_26 : decode cX12_may 26 = .ok (.aload_n 0, 1) := by decide +kernel
theorem dX12_may_27 : decode cX12_may 27 = .ok (.iload_n 1, 1) := by decide +kernel
theorem dX12_may_28 : decode cX12_may 28 = .ok (.iload_n 2, 1) := by decide +kernel
theorem dX12_may_29 : decode cX12_may 29 = .ok (.invokevirtual 283, 3) := by decide +kernel
theorem dX12_may_32 : decode cX12_may 32 = .ok (.l2i, 1) := by decide +kernel
theorem dX12_may_33 : decode cX12_may 33 = .ok (.goto 9, 3) := by decide +kernel
theorem dX12_may_36 : decode cX12_may 36 = .ok (.aload_n 0, 1) := by decide +kernel
theorem dX12_may_37 : decode cX12_may 37 = .ok (.bipush (-2), 2) := by decide +kernel
theorem dX12_may_39 : decode cX12_may 39 = .ok (.invokevirtual 150, 3) := by decide +kernel
theorem dX12_may_42 : decode cX12_may 42 = .ok (.ireturn, 1) := by decide +kernel
theorem dX12_begins_0 : decode cX12_begins 0 = .ok (.iconst 0, 1) := by decide +kernel
theorem dX12_begins_1 : decode cX12_begins 1 = .ok (.istore_n 1, 1) := by decide +kernel
theorem dX12_begins_2 : decode cX12_begins 2 = .ok (.iload_n 1, 1) := by decide +kernel
theorem dX12_begins_3 : decode cX12_begins 3 = .ok (.aload_n 0, 1) := by decide +kernel
theorem dX12_begins_4 : decode cX12_begins 4 = .ok (.getfield 154, 3) := by decide +kernel
theorem dX12_begins_7 : decode cX12_begins 7 = .ok (.if_icmp .ge 106, 3) := by decide +kernel
theorem dX12_begins_10 : decode cX12_begins 10 = .ok (.aload_n 0, 1) := by decide +kernel
theorem dX12_begins_11 : decode cX12_begins 11 = .ok (.getfield 121, 3) := by decide +kernel
theorem dX12_begins_14 : decode cX12_begins 14 = .ok (.iload_n 1, 1) := by decide +kernel
theorem dX12_begins_15 : decode cX12_begins 15 = .ok (.aload_n 0, 1) := by decide +kernel
theorem dX12_begins_16 : decode cX12_begins 16 = .ok (.iload_n 1, 1) := by decide +kernel
theorem dX12_begins_17 : decode cX12_begins 17 = .ok (.iconst 1, 1) := by decide +kernel
theorem dX12_begins_18 : decode cX12_begins 18 = .ok (.invokevirtual 283, 3) := by decide +kernel
theorem dX12_begins_21 : decode cX12_begins 21 = .ok (.lastore, 1) := by decide +kernel
theorem dX12_begins_22 : decode cX12_begins 22 = .ok (.aload_n 0, 1) := by decide +kernel
theorem dX12_begins_23 : decode cX12_begins 23 = .ok (.getfield 124, 3) := by decide +kernel
theorem dX12_begins_26 : decode cX12_begins 26 = .ok (.iload_n 1, 1) := by decide +kernel
theorem dX12_begins_27 : decode cX12_begins 27 = .ok (.aload_n 0, 1) := by decide +kernel
theorem dX12_begins_28 : decode cX12_begins 28 = .ok (.iload_n 1, 1) := by decide +kernel
theorem dX12_begins_29 : decode cX12_begins 29 = .ok (.iconst 0, 1) := by decide +kernel
theorem dX12_begins_30 : decode cX12_begins 30 = .ok (.invokevirtual 283, 3) := by decide +kernel
theorem dX12_begins_33 : decode cX12_begins 33 = .ok (.lastore, 1) := by decide +kernel
theorem dX12_begins_34 : decode cX12_begins 34 = .ok (.aload_n 0, 1) := by decide +kernel
theorem dX12_begins_35 : decode cX12_begins 35 = .ok (.getfield 127, 3) := by decide +kernel
theorem dX12_begins_38 : decode cX12_begins 38 = .ok (.iload_n 1, 1) := by decide +kernel
theorem dX12_begins_39 : decode cX12_begins 39 = .ok (.aload_n 0, 1) := by decide +kernel
theorem dX12_begins_40 : decode cX12_begins 40 = .ok (.aload_n 0, 1) := by decide +kernel
theorem dX12_begins_41 : decode cX12_begins 41 = .ok (.iload_n 1, 1) := by decide +kernel
theorem dX12_begins_42 : decode cX12_begins 42 = .ok (.iconst 0, 1) := by decide +kernel
theorem dX12_begins_43 : decode cX12_begins 43 = .ok (.invokevirtual 192, 3) := by decide +kernel
theorem dX12_begins_46 : decode cX12_begins 46 = .ok (.invokevirtual 215, 3) := by decide +kernel
theorem dX12_begins_49 : decode cX12_begins 49 = .ok (.lastore, 1) := by decide +kernel
theorem dX12_begins_50 : decode cX12_begins 50 = .ok (.iconst 0, 1) := by decide +kernel
theorem dX12_begins_51 : decode cX12_begins 51 = .ok (.istore_n 2, 1) := by decide +kernel
theorem dX12_begins_52 : decode cX12_begins 52 = .ok (.iload_n 2, 1) := by decide +kernel
theorem dX12_begins_53 : decode cX12_begins 53 = .ok (.aload_n 0, 1) := by decide +kernel
theorem dX12_begins_54 : decode cX12_begins 54 = .ok (.getfield 19, 3) := by decide +kernel
theorem dX12_begins_57 : decode cX12_begins 57 = .ok (.iload_n 1, 1) := by decide +kernel
theorem dX12_begins_58 : decode cX12_begins 58 = .ok (.iaload, 1) := by decide +kernel
theorem dX12_begins_59 : decode cX12_begins 59 = .ok (.if_icmp .ge 48, 3) := by decide +kernel
theorem dX12_begins_62 : decode cX12_begins 62 = .ok (.aload_n 0, 1) := by decide +kernel
theorem dX12_begins_63 : decode cX12_begins 63 = .ok (.getfield 115, 3) := by decide +kernel
theorem dX12_begins_66 : decode cX12_begins 66 = .ok (.bipush 8, 2) := by decide +kernel
theorem dX12_begins_68 : decode cX12_begins 68 = .ok (.iload_n 1, 1) := by decide +kernel
theorem dX12_begins_69 : decode cX12_begins 69 = .ok (.imul, 1) := by decide +kernel
theorem dX12_begins_70 : decode cX12_begins 70 = .ok (.iload_n 2, 1) := by decide +kernel
theorem dX12_begins_71 : decode cX12_begins 71 = .ok (.iadd, 1) := by decide +kernel
theorem dX12_begins_72 : decode cX12_begins 72 = .ok (.aload_n 0, 1) := by decide +kernel
theorem dX12_begins_73 : decode cX12_begins 73 = .ok (.iload_n 1, 1) := by decide +kernel
theorem dX12_begins_74 : decode cX12_begins 74 = .ok (.iload_n 2, 1) := by decide +kernel
theorem dX12_begins_75 : decode cX12_begins 75 = .ok (.invokevirtual 192, 3) := by decide +kernel
theorem dX12_begins_78 : decode cX12_begins 78 = .ok (.lastore, 1) := by decide +kernel
theorem dX12_begins_79 : decode cX12_begins 79 = .ok (.aload_n 0, 1) := by decide +kernel
theorem dX12_begins_80 : decode cX12_begins 80 = .ok (.getfield 118, 3) := by decide +kernel
theorem dX12_begins_83 : decode cX12_begins 83 = .ok (.bipush 8, 2) := by decide +kernel
theorem dX12_begins_85 : decode cX12_begins 85 = .ok (.iload_n 1, 1) := by decide +kernel
theorem dX12_begins_86 : decode cX12_begins 86 = .ok (.imul, 1) := by decide +kernel
theorem dX12_begins_87 : decode cX12_begins 87 = .ok (.iload_n 2, 1) := by decide +kernel
theorem dX12_begins_88 : decode cX12_begins 88 = .ok (.iadd, 1) := by decide +kernel
theorem dX12_begins_89 : decode cX12_begins 89 = .ok (.aload_n 0, 1) := by decide +kernel
theorem dX12_begins_90 : decode cX12_begins 90 = .ok (.getfield 41, 3) := by decide +kernel
theorem dX12_begins_93 : decode cX12_begins 93 = .ok (.bipush 8, 2) := by decide +kernel
theorem dX12_begins_95 : decode cX12_begins 95 = .ok (.iload_n 1, 1) := by decide +kernel
theorem dX12_begins_96 : decode cX12_begins 96 = .ok (.imul, 1) := by decide +kernel
theorem dX12_begins_97 : decode cX12_begins 97 = .ok (.iload_n 2, 1) := by decide +kernel
theorem dX12_begins_98 : decode cX12_begins 98 = .ok (.iadd, 1) := by decide +kernel
theorem dX12_begins_99 : decode cX12_begins 99 = .ok (.laload, 1) := by decide +kernel
theorem dX12_begins_100 : decode cX12_begins 100 = .ok (.lastore, 1) := by decide +kernel
theorem dX12_begins_101 : decode cX12_begins 101 = .ok (.iinc 2 1, 3) := by decide +kernel
theorem dX12_begins_104 : decode cX12_begins 104 = .ok (.goto (-52), 3) := by decide +kernel
theorem dX12_begins_107 : decode cX12_begins 107 = .ok (.iinc 1 1, 3) := by decide +kernel
theorem dX12_begins_110 : decode cX12_begins 110 = .ok (.goto (-108), 3) := by decide +kernel
theorem dX12_begins_113 : decode cX12_begins 113 = .ok (.return_, 1) := by decide +kernel
theorem dX12_ground_0 : decode cX12_ground 0 = .ok (.iconst 0, 1) := by decide +kernel
theorem dX12_ground_1 : decode cX12_ground 1 = .ok (.istore_n 1, 1) := by decide +kernel
theorem dX12_ground_2 : decode cX12_ground 2 = .ok (.iload_n 1, 1) := by decide +kernel
theorem dX12_ground_3 : decode cX12_ground 3 = .ok (.aload_n 0, 1) := by decide +kernel
theorem dX12_ground_4 : decode cX12_ground 4 = .ok (.getfield 154, 3) := by decide +kernel
theorem dX12_ground_7 : decode cX12_ground 7 = .ok (.if_icmp .ge 244, 3) := by decide +kernel
theorem dX12_ground_10 : decode cX12_ground 10 = .ok (.aload_n 0, 1) := by decide +kernel
theorem dX12_ground_11 : decode cX12_ground 11 = .ok (.getfield 19, 3) := by decide +kernel
theorem dX12_ground_14 : decode cX12_ground 14 = .ok (.iload_n 1, 1) := by decide +kernel
theorem dX12_ground_15 : decode cX12_ground 15 = .ok (.iaload, 1) := by decide +kernel
theorem dX12_ground_16 : decode cX12_ground 16 = .ok (.iconst 1, 1) := by decide +kernel
theorem dX12_ground_17 : decode cX12_ground 17 = .ok (.isub, 1) := by decide +kernel
theorem dX12_ground_18 : decode cX12_ground 18 = .ok (.istore_n 2, 1) := by decide +kernel
theorem dX12_ground_19 : decode cX12_ground 19 = .ok (.iconst 0, 1) := by decide +kernel
theorem dX12_ground_20 : decode cX12_ground 20 = .ok (.istore_n 3, 1) := by decide +kernel
theorem dX12_ground_21 : decode cX12_ground 21 = .ok (.iload_n 3, 1) := by decide +kernel
theorem dX12_ground_22 : decode cX12_ground 22 = .ok (.iload_n 2, 1) := by decide +kernel
theorem dX12_ground_23 : decode cX12_ground 23 = .ok (.if_icmp .ge 82, 3) := by decide +kernel
theorem dX12_ground_26 : decode cX12_ground 26 = .ok (.aload_n 0, 1) := by decide +kernel
theorem dX12_ground_27 : decode cX12_ground 27 = .ok (.getfield 31, 3) := by decide +kernel
theorem dX12_ground_30 : decode cX12_ground 30 = .ok (.iload_n 1, 1) := by decide +kernel
theorem dX12_ground_31 : decode cX12_ground 31 = .ok (.iaload, 1) := by decide +kernel
theorem dX12_ground_32 : decode cX12_ground 32 = .ok (.i2l, 1) := by decide +kernel
theorem dX12_ground_33 : decode cX12_ground 33 = .ok (.aload_n 0, 1) := by decide +kernel
theorem dX12_ground_34 : decode cX12_ground 34 = .ok (.getfield 115, 3) := by decide +kernel
theorem dX12_ground_37 : decode cX12_ground 37 = .ok (.bipush 8, 2) := by decide +kernel
theorem dX12_ground_39 : decode cX12_ground 39 = .ok (.iload_n 1, 1) := by decide +kernel
theorem dX12_ground_40 : decode cX12_ground 40 = .ok (.imul, 1) := by decide +kernel
theorem dX12_ground_41 : decode cX12_ground 41 = .ok (.iload_n 3, 1) := by decide +kernel
theorem dX12_ground_42 : decode cX12_ground 42 = .ok (.iadd, 1) := by decide +kernel
theorem dX12_ground_43 : decode cX12_ground 43 = .ok (.laload, 1) := by decide +kernel
theorem dX12_ground_44 : decode cX12_ground 44 = .ok (.aload_n 0, 1) := by decide +kernel
theorem dX12_ground_45 : decode cX12_ground 45 = .ok (.getfield 115, 3) := by decide +kernel
theorem dX12_ground_48 : decode cX12_ground 48 = .ok (.bipush 8, 2) := by decide +kernel
theorem dX12_ground_50 : decode cX12_ground 50 = .ok (.iload_n 1, 1) := by decide +kernel
theorem dX12_ground_51 : decode cX12_ground 51 = .ok (.imul, 1) := by decide +kernel
theorem dX12_ground_52 : decode cX12_ground 52 = .ok (.iload_n 3, 1) := by decide +kernel
theorem dX12_ground_53 : decode cX12_ground 53 = .ok (.iadd, 1) := by decide +kernel
theorem dX12_ground_54 : decode cX12_ground 54 = .ok (.iconst 1, 1) := by decide +kernel
theorem dX12_ground_55 : decode cX12_ground 55 = .ok (.iadd, 1) := by decide +kernel
theorem dX12_ground_56 : decode cX12_ground 56 = .ok (.laload, 1) := by decide +kernel
theorem dX12_ground_57 : decode cX12_ground 57 = .ok (.lsub, 1) := by decide +kernel
theorem dX12_ground_58 : decode cX12_ground 58 = .ok (.lmul, 1) := by decide +kernel
theorem dX12_ground_59 : decode cX12_ground 59 = .ok (.ldc2_w 211, 3) := by decide +kernel
theorem dX12_ground_62 : decode cX12_ground 62 = .ok (.ldiv, 1) := by decide +kernel
theorem dX12_ground_63 : decode cX12_ground 63 = .ok (.lstore 4, 2) := by decide +kernel
theorem dX12_ground_65 : decode cX12_ground 65 = .ok (.aload_n 0, 1) := by decide +kernel
theorem dX12_ground_66 : decode cX12_ground 66 = .ok (.getfield 41, 3) := by decide +kernel
theorem dX12_ground_69 : decode cX12_ground 69 = .ok (.bipush 8, 2) := by decide +kernel
theorem dX12_ground_71 : decode cX12_ground 71 = .ok (.iload_n 1, 1) := by decide +kernel
theorem dX12_ground_72 : decode cX12_ground 72 = .ok (.imul, 1) := by decide +kernel
theorem dX12_ground_73 : decode cX12_ground 73 = .ok (.iload_n 3, 1) := by decide +kernel
theorem dX12_ground_74 : decode cX12_ground 74 = .ok (.iadd, 1) := by decide +kernel
theorem dX12_ground_75 : decode cX12_ground 75 = .ok (.dup2, 1) := by decide +kernel
theorem dX12_ground_76 : decode cX12_ground 76 = .ok (.laload, 1) := by decide +kernel
theorem dX12_ground_77 : decode cX12_ground 77 = .ok (.lload 4, 2) := by decide +kernel
theorem dX12_ground_79 : decode cX12_ground 79 = .ok (.lsub, 1) := by decide +kernel
theorem dX12_ground_80 : decode cX12_ground 80 = .ok (.lastore, 1) := by decide +kernel
theorem dX12_ground_81 : decode cX12_ground 81 = .ok (.aload_n 0, 1) := by decide +kernel
theorem dX12_ground_82 : decode cX12_ground 82 = .ok (.getfield 41, 3) := by decide +kernel
theorem dX12_ground_85 : decode cX12_ground 85 = .ok (.bipush 8, 2) := by decide +kernel
theorem dX12_ground_87 : decode cX12_ground 87 = .ok (.iload_n 1, 1) := by decide +kernel
theorem dX12_ground_88 : decode cX12_ground 88 = .ok (.imul, 1) := by decide +kernel
theorem dX12_ground_89 : decode cX12_ground 89 = .ok (.iload_n 3, 1) := by decide +kernel
theorem dX12_ground_90 : decode cX12_ground 90 = .ok (.iadd, 1) := by decide +kernel
theorem dX12_ground_91 : decode cX12_ground 91 = .ok (.iconst 1, 1) := by decide +kernel
theorem dX12_ground_92 : decode cX12_ground 92 = .ok (.iadd, 1) := by decide +kernel
theorem dX12_ground_93 : decode cX12_ground 93 = .ok (.dup2, 1) := by decide +kernel
theorem dX12_ground_94 : decode cX12_ground 94 = .ok (.laload, 1) := by decide +kernel
theorem dX12_ground_95 : decode cX12_ground 95 = .ok (.lload 4, 2) := by decide +kernel
theorem dX12_ground_97 : decode cX12_ground 97 = .ok (.ladd, 1) := by decide +kernel
theorem dX12_ground_98 : decode cX12_ground 98 = .ok (.lastore, 1) := by decide +kernel
theorem dX12_ground_99 : decode cX12_ground 99 = .ok (.iinc 3 1, 3) := by decide +kernel
theorem dX12_ground_102 : decode cX12_ground 102 = .ok (.goto (-81), 3) := by decide +kernel
theorem dX12_ground_105 : decode cX12_ground 105 = .ok (.aload_n 0, 1) := by decide +kernel
theorem dX12_ground_106 : decode cX12_ground 106 = .ok (.getfield 31, 3) := by decide +kernel
theorem dX12_ground_109 : decode cX12_ground 109 = .ok (.iload_n 1, 1) := by decide +kernel
theorem dX12_ground_110 : decode cX12_ground 110 = .ok (.iaload, 1) := by decide +kernel
theorem dX12_ground_111 : decode cX12_ground 111 = .ok (.i2l, 1) := by decide +kernel
theorem dX12_ground_112 : decode cX12_ground 112 = .ok (.aload_n 0, 1) := by decide +kernel
theorem dX12_ground_113 : decode cX12_ground 113 = .ok (.getfield 115, 3) := by decide +kernel
theorem dX12_ground_116 : decode cX12_ground 116 = .ok (.bipush 8, 2) := by decide +kernel
theorem dX12_ground_118 : decode cX12_ground 118 = .ok (.iload_n 1, 1) := by decide +kernel
theorem dX12_ground_119 : decode cX12_ground 119 = .ok (.imul, 1) := by decide +kernel
theorem dX12_ground_120 : decode cX12_ground 120 = .ok (.iload_n 2, 1) := by decide +kernel
theorem dX12_ground_121 : decode cX12_ground 121 = .ok (.iadd, 1) := by decide +kernel
theorem dX12_ground_122 : decode cX12_ground 122 = .ok (.laload, 1) := by decide +kernel
theorem dX12_ground_123 : decode cX12_ground 123 = .ok (.ldc2_w 165, 3) := by decide +kernel
theorem dX12_ground_126 : decode cX12_ground 126 = .ok (.aload_n 0, 1) := by decide +kernel
theorem dX12_ground_127 : decode cX12_ground 127 = .ok (.getfield 28, 3) := by decide +kernel
theorem dX12_ground_130 : decode cX12_ground 130 = .ok (.iload_n 1, 1) := by decide +kernel
theorem dX12_ground_131 : decode cX12_ground 131 = .ok (.iaload, 1) := by decide +kernel
theorem dX12_ground_132 : decode cX12_ground 132 = .ok (.i2l, 1) := by decide +kernel
theorem dX12_ground_133 : decode cX12_ground 133 = .ok (.lmul, 1) := by decide +kernel
theorem dX12_ground_134 : decode cX12_ground 134 = .ok (.lsub, 1) := by decide +kernel
theorem dX12_ground_135 : decode cX12_ground 135 = .ok (.lmul, 1) := by decide +kernel
theorem dX12_ground_136 : decode cX12_ground 136 = .ok (.ldc2_w 211, 3) := by decide +kernel
theorem dX12_ground_139 : decode cX12_ground 139 = .ok (.ldiv, 1) := by decide +kernel
theorem dX12_ground_140 : decode cX12_ground 140 = .ok (.lstore_n 3, 1) := by decide +kernel
theorem dX12_ground_141 : decode cX12_ground 141 = .ok (.aload_n 0, 1) := by decide +kernel
theorem dX12_ground_142 : decode cX12_ground 142 = .ok (.getfield 41, 3) := by decide +kernel
theorem dX12_ground_145 : decode cX12_ground 145 = .ok (.bipush 8, 2) := by decide +kernel
theorem dX12_ground_147 : decode cX12_ground 147 = .ok (.iload_n 1, 1) := by decide +kernel
theorem dX12_ground_148 : decode cX12_ground 148 = .ok (.imul, 1) := by decide +kernel
theorem dX12_ground_149 : decode cX12_ground 149 = .ok (.iload_n 2, 1) := by decide +kernel
theorem dX12_ground_150 : decode cX12_ground 150 = .ok (.iadd, 1) := by decide +kernel
theorem dX12_ground_151 : decode cX12_ground 151 = .ok (.dup2, 1) := by decide +kernel
theorem dX12_ground_152 : decode cX12_ground 152 = .ok (.laload, 1) := by decide +kernel
theorem dX12_ground_153 : decode cX12_ground 153 = .ok (.lload_n 3, 1) := by decide +kernel
theorem dX12_ground_154 : decode cX12_ground 154 = .ok (.lsub, 1) := by decide +kernel
theorem dX12_ground_155 : decode cX12_ground 155 = .ok (.lastore, 1) := by decide +kernel
theorem dX12_ground_156 : decode cX12_ground 156 = .ok (.aload_n 0, 1) := by decide +kernel
theorem dX12_ground_157 : decode cX12_ground 157 = .ok (.getfield 48, 3) := by decide +kernel
theorem dX12_ground_160 : decode cX12_ground 160 = .ok (.bipush 7, 2) := by decide +kernel
theorem dX12_ground_162 : decode cX12_ground 162 = .ok (.dup2, 1) := by decide +kernel
theorem dX12_ground_163 : decode cX12_ground 163 = .ok (.laload, 1) := by decide +kernel
theorem dX12_ground_164 : decode cX12_ground 164 = .ok (.lload_n 3, 1) := by decide +kernel
theorem dX12_ground_165 : decode cX12_ground 165 = .ok (.ladd, 1) := by decide +kernel
theorem dX12_ground_166 : decode cX12_ground 166 = .ok (.lastore, 1) := by decide +kernel
theorem dX12_ground_167 : decode cX12_ground 167 = .ok (.iconst 0, 1) := by decide +kernel
theorem dX12_ground_168 : decode cX12_ground 168 = .ok (.istore 5, 2) := by decide +kernel
theorem dX12_ground_170 : decode cX12_ground 170 = .ok (.iload 5, 2) := by decide +kernel
theorem dX12_ground_172 : decode cX12_ground 172 = .ok (.iload_n 2, 1) := by decide +kernel
theorem dX12_ground_173 : decode cX12_ground 173 = .ok (.if_icmp .gt 72, 3) := by decide +kernel
theorem dX12_ground_176 : decode cX12_ground 176 = .ok (.aload_n 0, 1) := by decide +kernel
theorem dX12_ground_177 : decode cX12_ground 177 = .ok (.getfield 118, 3) := by decide +kernel
theorem dX12_ground_180 : decode cX12_ground 180 = .ok (.bipush 8, 2) := by decide +kernel
theorem dX12_ground_182 : decode cX12_ground 182 = .ok (.iload_n 1, 1) := by decide +kernel
theorem dX12_ground_183 : decode cX12_ground 183 = .ok (.imul, 1) := by decide +kernel
theorem dX12_ground_184 : decode cX12_ground 184 = .ok (.iload 5, 2) := by decide +kernel
theorem dX12_ground_186 : decode cX12_ground 186 = .ok (.iadd, 1) := by decide +kernel
theorem dX12_ground_187 : decode cX12_ground 187 = .ok (.laload, 1) := by decide +kernel
theorem dX12_ground_188 : decode cX12_ground 188 = .ok (.aload_n 0, 1) := by decide +kernel
theorem dX12_ground_189 : decode cX12_ground 189 = .ok (.iload_n 1, 1) := by decide +kernel
theorem dX12_ground_190 : decode cX12_ground 190 = .ok (.iload 5, 2) := by decide +kernel
theorem dX12_ground_192 : decode cX12_ground 192 = .ok (.invokevirtual 173, 3) := by decide +kernel
theorem dX12_ground_195 : decode cX12_ground 195 = .ok (.lsub, 1) := by decide +kernel
theorem dX12_ground_196 : decode cX12_ground 196 = .ok (.aload_n 0, 1) := by decide +kernel
theorem dX12_ground_197 : decode cX12_ground 197 = .ok (.getfield 34, 3) := by decide +kernel
theorem dX12_ground_200 : decode cX12_ground 200 = .ok (.iload_n 1, 1) := by decide +kernel
theorem dX12_ground_201 : decode cX12_ground 201 = .ok (.iaload, 1) := by decide +kernel
theorem dX12_ground_202 : decode cX12_ground 202 = .ok (.i2l, 1) := by decide +kernel
theorem dX12_ground_203 : decode cX12_ground 203 = .ok (.lmul, 1) := by decide +kernel
theorem dX12_ground_204 : decode cX12_ground 204 = .ok (.ldc2_w 165, 3) := by decide +kernel
theorem dX12_ground_207 : decode cX12_ground 207 = .ok (.ldiv, 1) := by decide +kernel
theorem dX12_ground_208 : decode cX12_ground 208 = .ok (.lstore 6, 2) := by decide +kernel
theorem dX12_ground_210 : decode cX12_ground 210 = .ok (.aload_n 0, 1) := by decide +kernel
theorem dX12_ground_211 : decode cX12_ground 211 = .ok (.getfield 41, 3) := by decide +kernel
theorem dX12_ground_214 : decode cX12_ground 214 = .ok (.bipush 8, 2) := by decide +kernel
theorem dX12_ground_216 : decode cX12_ground 216 = .ok (.iload_n 1, 1) := by decide +kernel
theorem dX12_ground_217 : decode cX12_ground 217 = .ok (.imul, 1) := by decide +kernel
theorem dX12_ground_218 : decode cX12_ground 218 = .ok (.iload 5, 2) := by decide +kernel
theorem dX12_ground_220 : decode cX12_ground 220 = .ok (.iadd, 1) := by decide +kernel
theorem dX12_ground_221 : decode cX12_ground 221 = .ok (.dup2, 1) := by decide +kernel
theorem dX12_ground_222 : decode cX12_ground 222 = .ok (.laload, 1) := by decide +kernel
theorem dX12_ground_223 : decode cX12_ground 223 = .ok (.lload 6, 2) := by decide +kernel
theorem dX12_ground_225 : decode cX12_ground 225 = .ok (.lsub, 1) := by decide +kernel
theorem dX12_ground_226 : decode cX12_ground 226 = .ok (.lastore, 1) := by decide +kernel
theorem dX12_ground_227 : decode cX12_ground 227 = .ok (.aload_n 0, 1) := by decide +kernel
theorem dX12_ground_228 : decode cX12_ground 228 = .ok (.getfield 48, 3) := by decide +kernel
theorem dX12_ground_231 : decode cX12_ground 231 = .ok (.bipush 8, 2) := by decide +kernel
theorem dX12_ground_233 : decode cX12_ground 233 = .ok (.dup2, 1) := by decide +kernel
theorem dX12_ground_234 : decode cX12_ground 234 = .ok (.laload, 1) := by decide +kernel
theorem dX12_ground_235 : decode cX12_ground 235 = .ok (.lload 6, 2) := by decide +kernel
theorem dX12_ground_237 : decode cX12_ground 237 = .ok (.ladd, 1) := by decide +kernel
theorem dX12_ground_238 : decode cX12_ground 238 = .ok (.lastore, 1) := by decide +kernel
theorem dX12_ground_239 : decode cX12_ground 239 = .ok (.iinc 5 1, 3) := by decide +kernel
theorem dX12_ground_242 : decode cX12_ground 242 = .ok (.goto (-72), 3) := by decide +kernel
theorem dX12_ground_245 : decode cX12_ground 245 = .ok (.iinc 1 1, 3) := by decide +kernel
theorem dX12_ground_248 : decode cX12_ground 248 = .ok (.goto (-246), 3) := by decide +kernel
theorem dX12_ground_251 : decode cX12_ground 251 = .ok (.iconst 0, 1) := by decide +kernel
theorem dX12_ground_252 : decode cX12_ground 252 = .ok (.istore_n 1, 1) := by decide +kernel
theorem dX12_ground_253 : decode cX12_ground 253 = .ok (.iload_n 1, 1) := by decide +kernel
theorem dX12_ground_254 : decode cX12_ground 254 = .ok (.aload_n 0, 1) := by decide +kernel
theorem dX12_ground_255 : decode cX12_ground 255 = .ok (.getfield 154, 3) := by decide +kernel
theorem dX12_ground_258 : decode cX12_ground 258 = .ok (.if_icmp .ge 126, 3) := by decide +kernel
theorem dX12_ground_261 : decode cX12_ground 261 = .ok (.iload_n 1, 1) := by decide +kernel
theorem dX12_ground_262 : decode cX12_ground 262 = .ok (.iconst 1, 1) := by decide +kernel
theorem dX12_ground_263 : decode cX12_ground 263 = .ok (.iadd, 1) := by decide +kernel
theorem dX12_ground_264 : decode cX12_ground 264 = .ok (.istore_n 2, 1) := by decide +kernel
theorem dX12_ground_265 : decode cX12_ground 265 = .ok (.iload_n 2, 1) := by decide +kernel
theorem dX12_ground_266 : decode cX12_ground 266 = .ok (.aload_n 0, 1) := by decide +kernel
theorem dX12_ground_267 : decode cX12_ground 267 = .ok (.getfield 154, 3) := by decide +kernel
theorem dX12_ground_270 : decode cX12_ground 270 = .ok (.if_icmp .ge 108, 3) := by decide +kernel
theorem dX12_ground_273 : decode cX12_ground 273 = .ok (.aload_n 0, 1) := by decide +kernel
theorem dX12_ground_274 : decode cX12_ground 274 = .ok (.iload_n 1, 1) := by decide +kernel
theorem dX12_ground_275 : decode cX12_ground 275 = .ok (.iload_n 2, 1) := by decide +kernel
theorem dX12_ground_276 : decode cX12_ground 276 = .ok (.invokevirtual 286, 3) := by decide +kernel
theorem dX12_ground_279 : decode cX12_ground 279 = .ok (.istore_n 3, 1) := by decide +kernel
theorem dX12_ground_280 : decode cX12_ground 280 = .ok (.iload_n 3, 1) := by decide +kernel
theorem dX12_ground_281 : decode cX12_ground 281 = .ok (.bipush 9, 2) := by decide +kernel
theorem dX12_ground_283 : decode cX12_ground 283 = .ok (.if_icmp .gt 89, 3) := by decide +kernel
theorem dX12_ground_286 : decode cX12_ground 286 = .ok (.bipush 8, 2) := by decide +kernel
theorem dX12_ground_288 : decode cX12_ground 288 = .ok (.iload_n 1, 1) := by decide +kernel
theorem dX12_ground_289 : decode cX12_ground 289 = .ok (.imul, 1) := by decide +kernel
theorem dX12_ground_290 : decode cX12_ground 290 = .ok (.aload_n 0, 1) := by decide +kernel
theorem dX12_ground_291 : decode cX12_ground 291 = .ok (.getfield 19, 3) := by decide +kernel
theorem dX12_ground_294 : decode cX12_ground 294 = .ok (.iload_n 1, 1) := by decide +kernel
theorem dX12_ground_295 : decode cX12_ground 295 = .ok (.iaload, 1) := by decide +kernel
theorem dX12_ground_296 : decode cX12_ground 296 = .ok (.iadd, 1) := by decide +kernel
theorem dX12_ground_297 : decode cX12_ground 297 = .ok (.iconst 1, 1) := by decide +kernel
theorem dX12_ground_298 : decode cX12_ground 298 = .ok (.isub, 1) := by decide +kernel
theorem dX12_ground_299 : decode cX12_ground 299 = .ok (.istore 4, 2) := by decide +kernel
theorem dX12_ground_301 : decode cX12_ground 301 = .ok (.bipush 8, 2) := by decide +kernel
theorem dX12_ground_303 : decode cX12_ground 303 = .ok (.iload_n 2, 1) := by decide +kernel
theorem dX12_ground_304 : decode cX12_ground 304 = .ok (.imul, 1) := by decide +kernel
theorem dX12_ground_305 : decode cX12_ground 305 = .ok (.aload_n 0, 1) := by decide +kernel
theorem dX12_ground_306 : decode cX12_ground 306 = .ok (.getfield 19, 3) := by decide +kernel
theorem dX12_ground_309 : decode cX12_ground 309 = .ok (.iload_n 2, 1) := by decide +kernel
theorem dX12_ground_310 : decode cX12_ground 310 = .ok (.iaload, 1) := by decide +kernel
theorem dX12_ground_311 : decode cX12_ground 311 = .ok (.iadd, 1) := by decide +kernel
theorem dX12_ground_312 : decode cX12_ground 312 = .ok (.iconst 1, 1) := by decide +kernel
theorem dX12_ground_313 : decode cX12_ground 313 = .ok (.isub, 1) := by decide +kernel
theorem dX12_ground_314 : decode cX12_ground 314 = .ok (.istore 5, 2) := by decide +kernel
theorem dX12_ground_316 : decode cX12_ground 316 = .ok (.aload_n 0, 1) := by decide +kernel
theorem dX12_ground_317 : decode cX12_ground 317 = .ok (.getfield 181, 3) := by decide +kernel
theorem dX12_ground_320 : decode cX12_ground 320 = .ok (.i2l, 1) := by decide +kernel
theorem dX12_ground_321 : decode cX12_ground 321 = .ok (.aload_n 0, 1) := by decide +kernel
theorem dX12_ground_322 : decode cX12_ground 322 = .ok (.getfield 115, 3) := by decide +kernel
theorem dX12_ground_325 : decode cX12_ground 325 = .ok (.iload 4, 2) := by decide +kernel
theorem dX12_ground_327 : decode cX12_ground 327 = .ok (.laload, 1) := by decide +kernel
theorem dX12_ground_328 : decode cX12_ground 328 = .ok (.aload_n 0, 1) := by decide +kernel
theorem dX12_ground_329 : decode cX12_ground 329 = .ok (.getfield 115, 3) := by decide +kernel
theorem dX12_ground_332 : decode cX12_ground 332 = .ok (.iload 5, 2) := by decide +kernel
theorem dX12_ground_334 : decode cX12_ground 334 = .ok (.laload, 1) := by decide +kernel
theorem dX12_ground_335 : decode cX12_ground 335 = .ok (.lsub, 1) := by decide +kernel
theorem dX12_ground_336 : decode cX12_ground 336 = .ok (.lmul, 1) := by decide +kernel
theorem dX12_ground_337 : decode cX12_ground 337 = .ok (.ldc2_w 211, 3) := by decide +kernel
theorem dX12_ground_340 : decode cX12_ground 340 = .ok (.iload_n 3, 1) := by decide +kernel
theorem dX12_ground_341 : decode cX12_ground 341 = .ok (.iconst 1, 1) := by decide +kernel
theorem dX12_ground_342 : decode cX12_ground 342 = .ok (.iadd, 1) := by decide +kernel
theorem dX12_ground_343 : decode cX12_ground 343 = .ok (.i2l, 1) := by decide +kernel
theorem dX12_ground_344 : decode cX12_ground 344 = .ok (.lmul, 1) := by decide +kernel
theorem dX12_ground_345 : decode cX12_ground 345 = .ok (.ldiv, 1) := by decide +kernel
theorem dX12_ground_346 : decode cX12_ground 346 = .ok (.lstore 6, 2) := by decide +kernel
theorem dX12_ground_348 : decode cX12_ground 348 = .ok (.aload_n 0, 1) := by decide +kernel
theorem dX12_ground_349 : decode cX12_ground 349 = .ok (.getfield 41, 3) := by decide +kernel
theorem dX12_ground_352 : decode cX12_ground 352 = .ok (.iload 4, 2) := by decide +kernel
theorem dX12_ground_354 : decode cX12_ground 354 = .ok (.dup2, 1) := by decide +kernel
theorem dX12_ground_355 : decode cX12_ground 355 = .ok (.laload, 1) := by decide +kernel
theorem dX12_ground_356 : decode cX12_ground 356 = .ok (.lload 6, 2) := by decide +kernel
theorem dX12_ground_358 : decode cX12_ground 358 = .ok (.lsub, 1) := by decide +kernel
theorem dX12_ground_359 : decode cX12_ground 359 = .ok (.lastore, 1) := by decide +kernel
theorem dX12_ground_360 : decode cX12_ground 360 = .ok (.aload_n 0, 1) := by decide +kernel
theorem dX12_ground_361 : decode cX12_ground 361 = .ok (.getfield 41, 3) := by decide +kernel
theorem dX12_ground_364 : decode cX12_ground 364 = .ok (.iload 5, 2) := by decide +kernel
theorem dX12_ground_366 : decode cX12_ground 366 = .ok (.dup2, 1) := by decide +kernel
theorem dX12_ground_367 : decode cX12_ground 367 = .ok (.laload, 1) := by decide +kernel
theorem dX12_ground_368 : decode cX12_ground 368 = .ok (.lload 6, 2) := by decide +kernel
theorem dX12_ground_370 : decode cX12_ground 370 = .ok (.ladd, 1) := by decide +kernel
theorem dX12_ground_371 : decode cX12_ground 371 = .ok (.lastore, 1) := by decide +kernel
theorem dX12_ground_372 : decode cX12_ground 372 = .ok (.iinc 2 1, 3) := by decide +kernel
theorem dX12_ground_375 : decode cX12_ground 375 = .ok (.goto (-110), 3) := by decide +kernel
theorem dX12_ground_378 : decode cX12_ground 378 = .ok (.iinc 1 1, 3) := by decide +kernel
theorem dX12_ground_381 : decode cX12_ground 381 = .ok (.goto (-128), 3) := by decide +kernel
theorem dX12_ground_384 : decode cX12_ground 384 = .ok (.return_, 1) := by decide +kernel
theorem dX12_farOf_0 : decode cX12_farOf 0 = .ok (.aload_n 0, 1) := by decide +kernel
theorem dX12_farOf_1 : decode cX12_farOf 1 = .ok (.getfield 13, 3) := by decide +kernel
theorem dX12_farOf_4 : decode cX12_farOf 4 = .ok (.iload_n 1, 1) := by decide +kernel
theorem dX12_farOf_5 : decode cX12_farOf 5 = .ok (.iaload, 1) := by decide +kernel
theorem dX12_farOf_6 : decode cX12_farOf 6 = .ok (.aload_n 0, 1) := by decide +kernel
theorem dX12_farOf_7 : decode cX12_farOf 7 = .ok (.getfield 13, 3) := by decide +kernel
theorem dX12_farOf_10 : decode cX12_farOf 10 = .ok (.iload_n 2, 1) := by decide +kernel
theorem dX12_farOf_11 : decode cX12_farOf 11 = .ok (.iaload, 1) := by decide +kernel
theorem dX12_farOf_12 : decode cX12_farOf 12 = .ok (.if_icmp .ge 19, 3) := by decide +kernel
theorem dX12_farOf_15 : decode cX12_farOf 15 = .ok (.aload_n 0, 1) := by decide +kernel
theorem dX12_farOf_16 : decode cX12_farOf 16 = .ok (.getfield 13, 3) := by decide +kernel
theorem dX12_farOf_19 : decode cX12_farOf 19 = .ok (.iload_n 2, 1) := by decide +kernel
theorem dX12_farOf_20 : decode cX12_farOf 20 = .ok (.iaload, 1) := by decide +kernel
theorem dX12_farOf_21 : decode cX12_farOf 21 = .ok (.aload_n 0, 1) := by decide +kernel
theorem dX12_farOf_22 : decode cX12_farOf 22 = .ok (.getfield 13, 3) := by decide +kernel
theorem dX12_farOf_25 : decode cX12_farOf 25 = .ok (.iload_n 1, 1) := by decide +kernel
theorem dX12_farOf_26 : decode cX12_farOf 26 = .ok (.iaload, 1) := by decide +kernel
theorem dX12_farOf_27 : decode cX12_farOf 27 = .ok (.isub, 1) := by decide +kernel
theorem dX12_farOf_28 : decode cX12_farOf 28 = .ok (.goto 16, 3) := by decide +kernel
theorem dX12_farOf_31 : decode cX12_farOf 31 = .ok (.aload_n 0, 1) := by decide +kernel
theorem dX12_farOf_32 : decode cX12_farOf 32 = .ok (.getfield 13, 3) := by decide +kernel
theorem dX12_farOf_35 : decode cX12_farOf 35 = .ok (.iload_n 1, 1) := by decide +kernel
theorem dX12_farOf_36 : decode cX12_farOf 36 = .ok (.iaload, 1) := by decide +kernel
theorem dX12_farOf_37 : decode cX12_farOf 37 = .ok (.aload_n 0, 1) := by decide +kernel
theorem dX12_farOf_38 : decode cX12_farOf 38 = .ok (.getfield 13, 3) := by decide +kernel
theorem dX12_farOf_41 : decode cX12_farOf 41 = .ok (.iload_n 2, 1) := by decide +kernel
theorem dX12_farOf_42 : decode cX12_farOf 42 = .ok (.iaload, 1) := by decide +kernel
theorem dX12_farOf_43 : decode cX12_farOf 43 = .ok (.isub, 1) := by decide +kernel
theorem dX12_farOf_44 : decode cX12_farOf 44 = .ok (.istore_n 3, 1) := by decide +kernel
theorem dX12_farOf_45 : decode cX12_farOf 45 = .ok (.aload_n 0, 1) := by decide +kernel
theorem dX12_farOf_46 : decode cX12_farOf 46 = .ok (.getfield 16, 3) := by decide +kernel
theorem dX12_farOf_49 : decode cX12_farOf 49 = .ok (.iload_n 1, 1) := by decide +kernel
theorem dX12_farOf_50 : decode cX12_farOf 50 = .ok (.iaload, 1) := by decide +kernel
theorem dX12_farOf_51 : decode cX12_farOf 51 = .ok (.aload_n 0, 1) := by decide +kernel
theorem dX12_farOf_52 : decode cX12_farOf 52 = .ok (.getfield 16, 3) := by decide +kernel
theorem dX12_farOf_55 : decode cX12_farOf 55 = .ok (.iload_n 2, 1) := by decide +kernel
theorem dX12_farOf_56 : decode cX12_farOf 56 = .ok (.iaload, 1) := by decide +kernel
theorem dX12_farOf_57 : decode cX12_farOf 57 = .ok (.if_icmp .ge 19, 3) := by decide +kernel
theorem dX12_farOf_60 : decode cX12_farOf 60 = .ok (.aload_n 0, 1) := by decide +kernel
theorem dX12_farOf_61 : decode cX12_farOf 61 = .ok (.getfield 16, 3) := by decide +kernel
theorem dX12_farOf_64 : decode cX12_farOf 64 = .ok (.iload_n 2, 1) := by decide +kernel
theorem dX12_farOf_65 : decode cX12_farOf 65 = .ok (.iaload, 1) := by decide +kernel
theorem dX12_farOf_66 : decode cX12_farOf 66 = .ok (.aload_n 0, 1) := by decide +kernel
theorem dX12_farOf_67 : decode cX12_farOf 67 = .ok (.getfield 16, 3) := by decide +kernel
theorem dX12_farOf_70 : decode cX12_farOf 70 = .ok (.iload_n 1, 1) := by decide +kernel
theorem dX12_farOf_71 : decode cX12_farOf 71 = .ok (.iaload, 1) := by decide +kernel
theorem dX12_farOf_72 : decode cX12_farOf 72 = .ok (.isub, 1) := by decide +kernel
theorem dX12_farOf_73 : decode cX12_farOf 73 = .ok (.goto 16, 3) := by decide +kernel
theorem dX12_farOf_76 : decode cX12_farOf 76 = .ok (.aload_n 0, 1) := by decide +kernel
theorem dX12_farOf_77 : decode cX12_farOf 77 = .ok (.getfield 16, 3) := by decide +kernel
theorem dX12_farOf_80 : decode cX12_farOf 80 = .ok (.iload_n 1, 1) := by decide +kernel
theorem dX12_farOf_81 : decode cX12_farOf 81 = .ok (.iaload, 1) := by decide +kernel
theorem dX12_farOf_82 : decode cX12_farOf 82 = .ok (.aload_n 0, 1) := by decide +kernel
theorem dX12_farOf_83 : decode cX12_farOf 83 = .ok (.getfield 16, 3) := by decide +kernel
theorem dX12_farOf_86 : decode cX12_farOf 86 = .ok (.iload_n 2, 1) := by decide +kernel
theorem dX12_farOf_87 : decode cX12_farOf 87 = .ok (.iaload, 1) := by decide +kernel
theorem dX12_farOf_88 : decode cX12_farOf 88 = .ok (.isub, 1) := by decide +kernel
theorem dX12_farOf_89 : decode cX12_farOf 89 = .ok (.istore 4, 2) := by decide +kernel
theorem dX12_farOf_91 : decode cX12_farOf 91 = .ok (.iload_n 3, 1) := by decide +kernel
theorem dX12_farOf_92 : decode cX12_farOf 92 = .ok (.iload 4, 2) := by decide +kernel
theorem dX12_farOf_94 : decode cX12_farOf 94 = .ok (.if_icmp .le 7, 3) := by decide +kernel
theorem dX12_farOf_97 : decode cX12_farOf 97 = .ok (.iload_n 3, 1) := by decide +kernel
theorem dX12_farOf_98 : decode cX12_farOf 98 = .ok (.goto 5, 3) := by decide +kernel
theorem dX12_farOf_101 : decode cX12_farOf 101 = .ok (.iload 4, 2) := by decide +kernel
theorem dX12_farOf_103 : decode cX12_farOf 103 = .ok (.ireturn, 1) := by decide +kernel
theorem dX12_goes_0 : decode cX12_goes 0 = .ok (.aload_n 0, 1) := by decide +kernel
theorem dX12_goes_1 : decode cX12_goes 1 = .ok (.invokevirtual 289, 3) := by decide +kernel
theorem dX12_goes_4 : decode cX12_goes 4 = .ok (.aload_n 0, 1) := by decide +kernel
theorem dX12_goes_5 : decode cX12_goes 5 = .ok (.getfield 75, 3) := by decide +kernel
theorem dX12_goes_8 : decode cX12_goes 8 = .ok (.aload_n 0, 1) := by decide +kernel
theorem dX12_goes_9 : decode cX12_goes 9 = .ok (.getfield 167, 3) := by decide +kernel
theorem dX12_goes_12 : decode cX12_goes 12 = .ok (.bipush 24, 2) := by decide +kernel
theorem dX12_goes_14 : decode cX12_goes 14 = .ok (.irem, 1) := by decide +kernel
theorem dX12_goes_15 : decode cX12_goes 15 = .ok (.iaload, 1) := by decide +kernel
theorem dX12_goes_16 : decode cX12_goes 16 = .ok (.i2l, 1) := by decide +kernel
theorem dX12_goes_17 : decode cX12_goes 17 = .ok (.lstore_n 1, 1) := by decide +kernel
theorem dX12_goes_18 : decode cX12_goes 18 = .ok (.iconst 0, 1) := by decide +kernel
theorem dX12_goes_19 : decode cX12_goes 19 = .ok (.istore_n 3, 1) := by decide +kernel
theorem dX12_goes_20 : decode cX12_goes 20 = .ok (.iload_n 3, 1) := by decide +kernel
theorem dX12_goes_21 : decode cX12_goes 21 = .ok (.aload_n 0, 1) := by decide +kernel
theorem dX12_goes_22 : decode cX12_goes 22 = .ok (.getfield 154, 3) := by decide +kernel
theorem dX12_goes_25 : decode cX12_goes 25 = .ok (.if_icmp .ge 71, 3) := by decide +kernel
theorem dX12_goes_28 : decode cX12_goes 28 = .ok (.aload_n 0, 1) := by decide +kernel
theorem dX12_goes_29 : decode cX12_goes 29 = .ok (.getfield 37, 3) := by decide +kernel
theorem dX12_goes_32 : decode cX12_goes 32 = .ok (.iload_n 3, 1) := by decide +kernel
theorem dX12_goes_33 : decode cX12_goes 33 = .ok (.baload, 1) := by decide +kernel
theorem dX12_goes_34 : decode cX12_goes 34 = .ok (.ifCond .eq 56, 3) := by decide +kernel
theorem dX12_goes_37 : decode cX12_goes 37 = .ok (.aload_n 0, 1) := by decide +kernel
theorem dX12_goes_38 : decode cX12_goes 38 = .ok (.getfield 121, 3) := by decide +kernel
theorem dX12_goes_41 : decode cX12_goes 41 = .ok (.iload_n 3, 1) := by decide +kernel
theorem dX12_goes_42 : decode cX12_goes 42 = .ok (.laload, 1) := by decide +kernel
theorem dX12_goes_43 : decode cX12_goes 43 = .ok (.lload_n 1, 1) := by decide +kernel
theorem dX12_goes_44 : decode cX12_goes 44 = .ok (.lcmp, 1) := by decide +kernel
theorem dX12_goes_45 : decode cX12_goes 45 = .ok (.ifCond .ge 12, 3) := by decide +kernel
theorem dX12_goes_48 : decode cX12_goes 48 = .ok (.aload_n 0, 1) := by decide +kernel
theorem dX12_goes_49 : decode cX12_goes 49 = .ok (.getfield 121, 3) := by decide +kernel
theorem dX12_goes_52 : decode cX12_goes 52 = .ok (.iload_n 3, 1) := by decide +kernel
theorem dX12_goes_53 : decode cX12_goes 53 = .ok (.laload, 1) := by decide +kernel
theorem dX12_goes_54 : decode cX12_goes 54 = .ok (.goto 4, 3) := by decide +kernel
theorem dX12_goes_57 : decode cX12_goes 57 = .ok (.lload_n 1, 1) := by decide +kernel
theorem dX12_goes_58 : decode cX12_goes 58 = .ok (.lstore 4, 2) := by decide +kernel
theorem dX12_goes_60 : decode cX12_goes 60 = .ok (.lload_n 1, 1) := by decide +kernel
theorem dX12_goes_61 : decode cX12_goes 61 = .ok (.lload 4, 2) := by decide +kernel
theorem dX12_goes_63 : decode cX12_goes 63 = .ok (.lsub, 1) := by decide +kernel
theorem dX12_goes_64 : decode cX12_goes 64 = .ok (.lstore_n 1, 1) := by decide +kernel
theorem dX12_goes_65 : decode cX12_goes 65 = .ok (.aload_n 0, 1) := by decide +kernel
theorem dX12_goes_66 : decode cX12_goes 66 = .ok (.getfield 41, 3) := by decide +kernel
theorem dX12_goes_69 : decode cX12_goes 69 = .ok (.bipush 8, 2) := by decide +kernel
theorem dX12_goes_71 : decode cX12_goes 71 = .ok (.iload_n 3, 1) := by decide +kernel
theorem dX12_goes_72 : decode cX12_goes 72 = .ok (.imul, 1) := by decide +kernel
theorem dX12_goes_73 : decode cX12_goes 73 = .ok (.dup2, 1) := by decide +kernel
theorem dX12_goes_74 : decode cX12_goes 74 = .ok (.laload, 1) := by decide +kernel
theorem dX12_goes_75 : decode cX12_goes 75 = .ok (.lload 4, 2) := by decide +kernel
theorem dX12_goes_77 : decode cX12_goes 77 = .ok (.ladd, 1) := by decide +kernel
theorem dX12_goes_78 : decode cX12_goes 78 = .ok (.lastore, 1) := by decide +kernel
theorem dX12_goes_79 : decode cX12_goes 79 = .ok (.aload_n 0, 1) := by decide +kernel
theorem dX12_goes_80 : decode cX12_goes 80 = .ok (.getfield 48, 3) := by decide +kernel
theorem dX12_goes_83 : decode cX12_goes 83 = .ok (.iconst 0, 1) := by decide +kernel
theorem dX12_goes_84 : decode cX12_goes 84 = .ok (.dup2, 1) := by decide +kernel
theorem dX12_goes_85 : decode cX12_goes 85 = .ok (.laload, 1) := by decide +kernel
theorem dX12_goes_86 : decode cX12_goes 86 = .ok (.lload 4, 2) := by decide +kernel
theorem dX12_goes_88 : decode cX12_goes 88 = .ok (.ladd, 1) := by decide +kernel
theorem dX12_goes_89 : decode cX12_goes 89 = .ok (.lastore, 1) := by decide +kernel
theorem dX12_goes_90 : decode cX12_goes 90 = .ok (.iinc 3 1, 3) := by decide +kernel
theorem dX12_goes_93 : decode cX12_goes 93 = .ok (.goto (-73), 3) := by decide +kernel
theorem dX12_goes_96 : decode cX12_goes 96 = .ok (.aload_n 0, 1) := by decide +kernel
theorem dX12_goes_97 : decode cX12_goes 97 = .ok (.getfield 48, 3) := by decide +kernel
theorem dX12_goes_100 : decode cX12_goes 100 = .ok (.iconst 1, 1) := by decide +kernel
theorem dX12_goes_101 : decode cX12_goes 101 = .ok (.dup2, 1) := by decide +kernel
theorem dX12_goes_102 : decode cX12_goes 102 = .ok (.laload, 1) := by decide +kernel
theorem dX12_goes_103 : decode cX12_goes 103 = .ok (.lload_n 1, 1) := by decide +kernel
theorem dX12_goes_104 : decode cX12_goes 104 = .ok (.ladd, 1) := by decide +kernel
theorem dX12_goes_105 : decode cX12_goes 105 = .ok (.lastore, 1) := by decide +kernel
theorem dX12_goes_106 : decode cX12_goes 106 = .ok (.aload_n 0, 1) := by decide +kernel
theorem dX12_goes_107 : decode cX12_goes 107 = .ok (.aload_n 0, 1) := by decide +kernel
theorem dX12_goes_108 : decode cX12_goes 108 = .ok (.getfield 167, 3) := by decide +kernel
theorem dX12_goes_111 : decode cX12_goes 111 = .ok (.invokevirtual 205, 3) := by decide +kernel
theorem dX12_goes_114 : decode cX12_goes 114 = .ok (.lstore_n 3, 1) := by decide +kernel
theorem dX12_goes_115 : decode cX12_goes 115 = .ok (.lconst 0, 1) := by decide +kernel
theorem dX12_goes_116 : decode cX12_goes 116 = .ok (.lstore 5, 2) := by decide +kernel
theorem dX12_goes_118 : decode cX12_goes 118 = .ok (.iconst 0, 1) := by decide +kernel
theorem dX12_goes_119 : decode cX12_goes 119 = .ok (.istore 7, 2) := by decide +kernel
theorem dX12_goes_121 : decode cX12_goes 121 = .ok (.iload 7, 2) := by decide +kernel
theorem dX12_goes_123 : decode cX12_goes 123 = .ok (.aload_n 0, 1) := by decide +kernel
theorem dX12_goes_124 : decode cX12_goes 124 = .ok (.getfield 154, 3) := by decide +kernel
theorem dX12_goes_127 : decode cX12_goes 127 = .ok (.if_icmp .ge 208, 3) := by decide +kernel
theorem dX12_goes_130 : decode cX12_goes 130 = .ok (.aload_n 0, 1) := by decide +kernel
theorem dX12_goes_131 : decode cX12_goes 131 = .ok (.getfield 37, 3) := by decide +kernel
theorem dX12_goes_134 : decode cX12_goes 134 = .ok (.iload 7, 2) := by decide +kernel
theorem dX12_goes_136 : decode cX12_goes 136 = .ok (.baload, 1) := by decide +kernel
theorem dX12_goes_137 : decode cX12_goes 137 = .ok (.ifCond .eq 192, 3) := by decide +kernel
theorem dX12_goes_140 : decode cX12_goes 140 = .ok (.aload_n 0, 1) := by decide +kernel
theorem dX12_goes_141 : decode cX12_goes 141 = .ok (.getfield 115, 3) := by decide +kernel
theorem dX12_goes_144 : decode cX12_goes 144 = .ok (.bipush 8, 2) := by decide +kernel
theorem dX12_goes_146 : decode cX12_goes 146 = .ok (.iload 7, 2) := by decide +kernel
theorem dX12_goes_148 : decode cX12_goes 148 = .ok (.imul, 1) := by decide +kernel
theorem dX12_goes_149 : decode cX12_goes 149 = .ok (.laload, 1) := by decide +kernel
theorem dX12_goes_150 : decode cX12_goes 150 = .ok (.lconst 0, 1) := by decide +kernel
theorem dX12_goes_151 : decode cX12_goes 151 = .ok (.lcmp, 1) := by decide +kernel
theorem dX12_goes_152 : decode cX12_goes 152 = .ok (.ifCond .le 177, 3) := by decide +kernel
theorem dX12_goes_155 : decode cX12_goes 155 = .ok (.lload_n 3, 1) := by decide +kernel
theorem dX12_goes_156 : decode cX12_goes 156 = .ok (.lconst 1, 1) := by decide +kernel
theorem dX12_goes_157 : decode cX12_goes 157 = .ok (.ladd, 1) := by decide +kernel
theorem dX12_goes_158 : decode cX12_goes 158 = .ok (.ldc2_w 211, 3) := by decide +kernel
theorem dX12_goes_161 : decode cX12_goes 161 = .ok (.lmul, 1) := by decide +kernel
theorem dX12_goes_162 : decode cX12_goes 162 = .ok (.lconst 1, 1) := by decide +kernel
theorem dX12_goes_163 : decode cX12_goes 163 = .ok (.lsub, 1) := by decide +kernel
theorem dX12_goes_164 : decode cX12_goes 164 = .ok (.aload_n 0, 1) := by decide +kernel
theorem dX12_goes_165 : decode cX12_goes 165 = .ok (.getfield 127, 3) := by decide +kernel
theorem dX12_goes_168 : decode cX12_goes 168 = .ok (.iload 7, 2) := by decide +kernel
theorem dX12_goes_170 : decode cX12_goes 170 = .ok (.laload, 1) := by decide +kernel
theorem dX12_goes_171 : decode cX12_goes 171 = .ok (.ldiv, 1) := by decide +kernel
theorem dX12_goes_172 : decode cX12_goes 172 = .ok (.lstore 8, 2) := by decide +kernel
theorem dX12_goes_174 : decode cX12_goes 174 = .ok (.aload_n 0, 1) := by decide +kernel
theorem dX12_goes_175 : decode cX12_goes 175 = .ok (.getfield 41, 3) := by decide +kernel
theorem dX12_goes_178 : decode cX12_goes 178 = .ok (.bipush 8, 2) := by decide +kernel
theorem dX12_goes_180 : decode cX12_goes 180 = .ok (.iload 7, 2) := by decide +kernel
theorem dX12_goes_182 : decode cX12_goes 182 = .ok (.imul, 1) := by decide +kernel
theorem dX12_goes_183 : decode cX12_goes 183 = .ok (.laload, 1) := by decide +kernel
theorem dX12_goes_184 : decode cX12_goes 184 = .ok (.lconst 0, 1) := by decide +kernel
theorem dX12_goes_185 : decode cX12_goes 185 = .ok (.lcmp, 1) := by decide +kernel
theorem dX12_goes_186 : decode cX12_goes 186 = .ok (.ifCond .ge 7, 3) := by decide +kernel
theorem dX12_goes_189 : decode cX12_goes 189 = .ok (.lconst 0, 1) := by decide +kernel
theorem dX12_goes_190 : decode cX12_goes 190 = .ok (.goto 13, 3) := by decide +kernel
theorem dX12_goes_193 : decode cX12_goes 193 = .ok (.aload_n 0, 1) := by decide +kernel
theorem dX12_goes_194 : decode cX12_goes 194 = .ok (.getfield 41, 3) := by decide +kernel
theorem dX12_goes_197 : decode cX12_goes 197 = .ok (.bipush 8, 2) := by decide +kernel
theorem dX12_goes_199 : decode cX12_goes 199 = .ok (.iload 7, 2) := by decide +kernel
theorem dX12_goes_201 : decode cX12_goes 201 = .ok (.imul, 1) := by decide +kernel
theorem dX12_goes_202 : decode cX12_goes 202 = .ok (.laload, 1) := by decide +kernel
theorem dX12_goes_203 : decode cX12_goes 203 = .ok (.lstore 10, 2) := by decide +kernel
theorem dX12_goes_205 : decode cX12_goes 205 = .ok (.lload 8, 2) := by decide +kernel
theorem dX12_goes_207 : decode cX12_goes 207 = .ok (.aload_n 0, 1) := by decide +kernel
theorem dX12_goes_208 : decode cX12_goes 208 = .ok (.getfield 124, 3) := by decide +kernel
theorem dX12_goes_211 : decode cX12_goes 211 = .ok (.iload 7, 2) := by decide +kernel
theorem dX12_goes_213 : decode cX12_goes 213 = .ok (.laload, 1) := by decide +kernel
theorem dX12_goes_214 : decode cX12_goes 214 = .ok (.lcmp, 1) := by decide +kernel
theorem dX12_goes_215 : decode cX12_goes 215 = .ok (.ifCond .le 13, 3) := by decide +kernel
theorem dX12_goes_218 : decode cX12_goes 218 = .ok (.aload_n 0, 1) := by decide +kernel
theorem dX12_goes_219 : decode cX12_goes 219 = .ok (.getfield 124, 3) := by decide +kernel
theorem dX12_goes_222 : decode cX12_goes 222 = .ok (.iload 7, 2) := by decide +kernel
theorem dX12_goes_224 : decode cX12_goes 224 = .ok (.laload, 1) := by decide +kernel
theorem dX12_goes_225 : decode cX12_goes 225 = .ok (.goto 5, 3) := by decide +kernel
theorem dX12_goes_228 : decode cX12_goes 228 = .ok (.lload 8, 2) := by decide +kernel
theorem dX12_goes_230 : decode cX12_goes 230 = .ok (.lstore 8, 2) := by decide +kernel
theorem dX12_goes_232 : decode cX12_goes 232 = .ok (.lload 8, 2) := by decide +kernel
theorem dX12_goes_234 : decode cX12_goes 234 = .ok (.lload 10, 2) := by decide +kernel
theorem dX12_goes_236 : decode cX12_goes 236 = .ok (.lcmp, 1) := by decide +kernel
theorem dX12_goes_237 : decode cX12_goes 237 = .ok (.ifCond .le 8, 3) := by decide +kernel
theorem dX12_goes_240 : decode cX12_goes 240 = .ok (.lload 10, 2) := by decide +kernel
theorem dX12_goes_242 : decode cX12_goes 242 = .ok (.goto 5, 3) := by decide +kernel
theorem dX12_goes_245 : decode cX12_goes 245 = .ok (.lload 8, 2) := by decide +kernel
theorem dX12_goes_247 : decode cX12_goes 247 = .ok (.lstore 8, 2) := by decide +kernel
theorem dX12_goes_249 : decode cX12_goes 249 = .ok (.lload 8, 2) := by decide +kernel
theorem dX12_goes_251 : decode cX12_goes 251 = .ok (.aload_n 0, 1) := by decide +kernel
theorem dX12_goes_252 : decode cX12_goes 252 = .ok (.getfield 127, 3) := by decide +kernel
theorem dX12_goes_255 : decode cX12_goes 255 = .ok (.iload 7, 2) := by decide +kernel
theorem dX12_goes_257 : decode cX12_goes 257 = .ok (.laload, 1) := by decide +kernel
theorem dX12_goes_258 : decode cX12_goes 258 = .ok (.lmul, 1) := by decide +kernel
theorem dX12_goes_259 : decode cX12_goes 259 = .ok (.ldc2_w 211, 3) := by decide +kernel
theorem dX12_goes_262 : decode cX12_goes 262 = .ok (.ldiv, 1) := by decide +kernel
theorem dX12_goes_263 : decode cX12_goes 263 = .ok (.lstore 12, 2) := by decide +kernel
theorem dX12_goes_265 : decode cX12_goes 265 = .ok (.aload_n 0, 1) := by decide +kernel
theorem dX12_goes_266 : decode cX12_goes 266 = .ok (.getfield 41, 3) := by decide +kernel
theorem dX12_goes_269 : decode cX12_goes 269 = .ok (.bipush 8, 2) := by decide +kernel
theorem dX12_goes_271 : decode cX12_goes 271 = .ok (.iload 7, 2) := by decide +kernel
theorem dX12_goes_273 : decode cX12_goes 273 = .ok (.imul, 1) := by decide +kernel
theorem dX12_goes_274 : decode cX12_goes 274 = .ok (.dup2, 1) := by decide +kernel
theorem dX12_goes_275 : decode cX12_goes 275 = .ok (.laload, 1) := by decide +kernel
theorem dX12_goes_276 : decode cX12_goes 276 = .ok (.lload 8, 2) := by decide +kernel
theorem dX12_goes_278 : decode cX12_goes 278 = .ok (.lsub, 1) := by decide +kernel
theorem dX12_goes_279 : decode cX12_goes 279 = .ok (.lastore, 1) := by decide +kernel
theorem dX12_goes_280 : decode cX12_goes 280 = .ok (.aload_n 0, 1) := by decide +kernel
theorem dX12_goes_281 : decode cX12_goes 281 = .ok (.getfield 45, 3) := by decide +kernel
theorem dX12_goes_284 : decode cX12_goes 284 = .ok (.iload 7, 2) := by decide +kernel
theorem dX12_goes_286 : decode cX12_goes 286 = .ok (.dup2, 1) := by decide +kernel
theorem dX12_goes_287 : decode cX12_goes 287 = .ok (.laload, 1) := by decide +kernel
theorem dX12_goes_288 : decode cX12_goes 288 = .ok (.lload 8, 2) := by decide +kernel
theorem dX12_goes_290 : decode cX12_goes 290 = .ok (.ladd, 1) := by decide +kernel
theorem dX12_goes_291 : decode cX12_goes 291 = .ok (.lastore, 1) := by decide +kernel
theorem dX12_goes_292 : decode cX12_goes 292 = .ok (.aload_n 0, 1) := by decide +kernel
theorem dX12_goes_293 : decode cX12_goes 293 = .ok (.getfield 48, 3) := by decide +kernel
theorem dX12_goes_296 : decode cX12_goes 296 = .ok (.iconst 2, 1) := by decide +kernel
theorem dX12_goes_297 : decode cX12_goes 297 = .ok (.dup2, 1) := by decide +kernel
theorem dX12_goes_298 : decode cX12_goes 298 = .ok (.laload, 1) := by decide +kernel
theorem dX12_goes_299 : decode cX12_goes 299 = .ok (.lload 8, 2) := by decide +kernel
theorem dX12_goes_301 : decode cX12_goes 301 = .ok (.ladd, 1) := by decide +kernel
theorem dX12_goes_302 : decode cX12_goes 302 = .ok (.lastore, 1) := by decide +kernel
theorem dX12_goes_303 : decode cX12_goes 303 = .ok (.aload_n 0, 1) := by decide +kernel
theorem dX12_goes_304 : decode cX12_goes 304 = .ok (.getfield 48, 3) := by decide +kernel
theorem dX12_goes_307 : decode cX12_goes 307 = .ok (.iconst 3, 1) := by decide +kernel
theorem dX12_goes_308 : decode cX12_goes 308 = .ok (.dup2, 1) := by decide +kernel
theorem dX12_goes_309 : decode cX12_goes 309 = .ok (.laload, 1) := by decide +kernel
theorem dX12_goes_310 : decode cX12_goes 310 = .ok (.lload 12, 2) := by decide +kernel
theorem dX12_goes_312 : decode cX12_goes 312 = .ok (.ladd, 1) := by decide +kernel
theorem dX12_goes_313 : decode cX12_goes 313 = .ok (.lastore, 1) := by decide +kernel
theorem dX12_goes_314 : decode cX12_goes 314 = .ok (.lload 5, 2) := by decide +kernel
theorem dX12_goes_316 : decode cX12_goes 316 = .ok (.lload 12, 2) := by decide +kernel
theorem dX12_goes_318 : decode cX12_goes 318 = .ok (.lload 8, 2) := by decide +kernel
theorem dX12_goes_320 : decode cX12_goes 320 = .ok (.lsub, 1) := by decide +kernel
theorem dX12_goes_321 : decode cX12_goes 321 = .ok (.ladd, 1) := by decide +kernel
theorem dX12_goes_322 : decode cX12_goes 322 = .ok (.lstore 5, 2) := by decide +kernel
theorem dX12_goes_324 : decode cX12_goes 324 = .ok (.lload_n 3, 1) := by decide +kernel
theorem dX12_goes_325 : decode cX12_goes 325 = .ok (.lload 12, 2) := by decide +kernel
theorem dX12_goes_327 : decode cX12_goes 327 = .ok (.lsub, 1) := by decide +kernel
theorem dX12_goes_328 : decode cX12_goes 328 = .ok (.lstore_n 3, 1) := by decide +kernel
theorem dX12_goes_329 : decode cX12_goes 329 = .ok (.iinc 7 1, 3) := by decide +kernel
theorem dX12_goes_332 : decode cX12_goes 332 = .ok (.goto (-211), 3) := by decide +kernel
theorem dX12_goes_335 : decode cX12_goes 335 = .ok (.aload_n 0, 1) := by decide +kernel
theorem dX12_goes_336 : decode cX12_goes 336 = .ok (.getfield 48, 3) := by decide +kernel
theorem dX12_goes_339 : decode cX12_goes 339 = .ok (.iconst 4, 1) := by decide +kernel
theorem dX12_goes_340 : decode cX12_goes 340 = .ok (.dup2, 1) := by decide +kernel
theorem dX12_goes_341 : decode cX12_goes 341 = .ok (.laload, 1) := by decide +kernel
theorem dX12_goes_342 : decode cX12_goes 342 = .ok (.lload 5, 2) := by decide +kernel
theorem dX12_goes_344 : decode cX12_goes 344 = .ok (.ladd, 1) := by decide +kernel
theorem dX12_goes_345 : decode cX12_goes 345 = .ok (.lastore, 1) := by decide +kernel
theorem dX12_goes_346 : decode cX12_goes 346 = .ok (.aload_n 0, 1) := by decide +kernel
theorem dX12_goes_347 : decode cX12_goes 347 = .ok (.getfield 48, 3) := by decide +kernel
theorem dX12_goes_350 : decode cX12_goes 350 = .ok (.iconst 5, 1) := by decide +kernel
theorem dX12_goes_351 : decode cX12_goes 351 = .ok (.dup2, 1) := by decide +kernel
theorem dX12_goes_352 : decode cX12_goes 352 = .ok (.laload, 1) := by decide +kernel
theorem dX12_goes_353 : decode cX12_goes 353 = .ok (.lload_n 3, 1) := by decide +kernel
theorem dX12_goes_354 : decode cX12_goes 354 = .ok (.ladd, 1) := by decide +kernel
theorem dX12_goes_355 : decode cX12_goes 355 = .ok (.lastore, 1) := by decide +kernel
theorem dX12_goes_356 : decode cX12_goes 356 = .ok (.aload_n 0, 1) := by decide +kernel
theorem dX12_goes_357 : decode cX12_goes 357 = .ok (.getfield 48, 3) := by decide +kernel
theorem dX12_goes_360 : decode cX12_goes 360 = .ok (.bipush 6, 2) := by decide +kernel
theorem dX12_goes_362 : decode cX12_goes 362 = .ok (.dup2, 1) := by decide +kernel
theorem dX12_goes_363 : decode cX12_goes 363 = .ok (.laload, 1) := by decide +kernel
theorem dX12_goes_364 : decode cX12_goes 364 = .ok (.lload 5, 2) := by decide +kernel
theorem dX12_goes_366 : decode cX12_goes 366 = .ok (.lload_n 3, 1) := by decide +kernel
theorem dX12_goes_367 : decode cX12_goes 367 = .ok (.ladd, 1) := by decide +kernel
theorem dX12_goes_368 : decode cX12_goes 368 = .ok (.aload_n 0, 1) := by decide +kernel
theorem dX12_goes_369 : decode cX12_goes 369 = .ok (.getfield 72, 3) := by decide +kernel
theorem dX12_goes_372 : decode cX12_goes 372 = .ok (.aload_n 0, 1) := by decide +kernel
theorem dX12_goes_373 : decode cX12_goes 373 = .ok (.getfield 167, 3) := by decide +kernel
theorem dX12_goes_376 : decode cX12_goes 376 = .ok (.bipush 24, 2) := by decide +kernel
theorem dX12_goes_378 : decode cX12_goes 378 = .ok (.irem, 1) := by decide +kernel
theorem dX12_goes_379 : decode cX12_goes 379 = .ok (.iaload, 1) := by decide +kernel
theorem dX12_goes_380 : decode cX12_goes 380 = .ok (.i2l, 1) := by decide +kernel
theorem dX12_goes_381 : decode cX12_goes 381 = .ok (.lmul, 1) := by decide +kernel
theorem dX12_goes_382 : decode cX12_goes 382 = .ok (.ldc2_w 211, 3) := by decide +kernel
theorem dX12_goes_385 : decode cX12_goes 385 = .ok (.ldiv, 1) := by decide +kernel
theorem dX12_goes_386 : decode cX12_goes 386 = .ok (.ladd, 1) := by decide +kernel
theorem dX12_goes_387 : decode cX12_goes 387 = .ok (.lastore, 1) := by decide +kernel
theorem dX12_goes_388 : decode cX12_goes 388 = .ok (.aload_n 0, 1) := by decide +kernel
theorem dX12_goes_389 : decode cX12_goes 389 = .ok (.invokevirtual 292, 3) := by decide +kernel
theorem dX12_goes_392 : decode cX12_goes 392 = .ok (.aload_n 0, 1) := by decide +kernel
theorem dX12_goes_393 : decode cX12_goes 393 = .ok (.dup, 1) := by decide +kernel
theorem dX12_goes_394 : decode cX12_goes 394 = .ok (.getfield 167, 3) := by decide +kernel
theorem dX12_goes_397 : decode cX12_goes 397 = .ok (.iconst 1, 1) := by decide +kernel
theorem dX12_goes_398 : decode cX12_goes 398 = .ok (.iadd, 1) := by decide +kernel
theorem dX12_goes_399 : decode cX12_goes 399 = .ok (.putfield 167, 3) := by decide +kernel
theorem dX12_goes_402 : decode cX12_goes 402 = .ok (.return_, 1) := by decide +kernel
theorem dX12_told_0 : decode cX12_told 0 = .ok (.lconst 0, 1) := by decide +kernel
theorem dX12_told_1 : decode cX12_told 1 = .ok (.lstore_n 2, 1) := by decide +kernel
theorem dX12_told_2 : decode cX12_told 2 = .ok (.iconst 0, 1) := by decide +kernel
theorem dX12_told_3 : decode cX12_told 3 = .ok (.istore 4, 2) := by decide +kernel
theorem dX12_told_5 : decode cX12_told 5 = .ok (.iload 4, 2) := by decide +kernel
theorem dX12_told_7 : decode cX12_told 7 = .ok (.aload_n 0, 1) := by decide +kernel
theorem dX12_told_8 : decode cX12_told 8 = .ok (.getfield 154, 3) := by decide +kernel
theorem dX12_told_11 : decode cX12_told 11 = .ok (.if_icmp .ge 63, 3) := by decide +kernel
theorem dX12_told_14 : decode cX12_told 14 = .ok (.iconst 0, 1) := by decide +kernel
theorem dX12_told_15 : decode cX12_told 15 = .ok (.istore 5, 2) := by decide +kernel
theorem dX12_told_17 : decode cX12_told 17 = .ok (.iload 5, 2) := by decide +kernel
theorem dX12_told_19 : decode cX12_told 19 = .ok (.aload_n 0, 1) := by decide +kernel
theorem dX12_told_20 : decode cX12_told 20 = .ok (.getfield 19, 3) := by decide +kernel
theorem dX12_told_23 : decode cX12_told 23 = .ok (.iload 4, 2) := by decide +kernel
theorem dX12_told_25 : decode cX12_told 25 = .ok (.iaload, 1) := by decide +kernel
theorem dX12_told_26 : decode cX12_told 26 = .ok (.if_icmp .ge 42, 3) := by decide +kernel
theorem dX12_told_29 : decode cX12_told 29 = .ok (.lload_n 2, 1) := by decide +kernel
theorem dX12_told_30 : decode cX12_told 30 = .ok (.iload_n 1, 1) := by decide +kernel
theorem dX12_told_31 : decode cX12_told 31 = .ok (.bipush 9, 2) := by decide +kernel
theorem dX12_told_33 : decode cX12_told 33 = .ok (.if_icmp .ne 19, 3) := by decide +kernel
theorem dX12_told_36 : decode cX12_told 36 = .ok (.aload_n 0, 1) := by decide +kernel
theorem dX12_told_37 : decode cX12_told 37 = .ok (.getfield 41, 3) := by decide +kernel
theorem dX12_told_40 : decode cX12_told 40 = .ok (.bipush 8, 2) := by decide +kernel
theorem dX12_told_42 : decode cX12_told 42 = .ok (.iload 4, 2) := by decide +kernel
theorem dX12_told_44 : decode cX12_told 44 = .ok (.imul, 1) := by decide +kernel
theorem dX12_told_45 : decode cX12_told 45 = .ok (.iload 5, 2) := by decide +kernel
theorem dX12_told_47 : decode cX12_told 47 = .ok (.iadd, 1) := by decide +kernel
theorem dX12_told_48 : decode cX12_told 48 = .ok (.laload, 1) := by decide +kernel
theorem dX12_told_49 : decode cX12_told 49 = .ok (.goto 11, 3) := by decide +kernel
theorem dX12_told_52 : decode cX12_told 52 = .ok (.aload_n 0, 1) := by decide +kernel
theorem dX12_told_53 : decode cX12_told 53 = .ok (.iload 4, 2) := by decide +kernel
theorem dX12_told_55 : decode cX12_told 55 = .ok (.iload 5, 2) := by decide +kernel
theorem dX12_told_57 : decode cX12_told 57 = .ok (.invokevirtual 173, 3) := by decide +kernel
theorem dX12_told_60 : decode cX12_told 60 = .ok (.ladd, 1) := by decide +kernel
theorem dX12_told_61 : decode cX12_told 61 = .ok (.lstore_n 2, 1) := by decide +kernel
theorem dX12_told_62 : decode cX12_told 62 = .ok (.iinc 5 1, 3) := by decide +kernel
theorem dX12_told_65 : decode cX12_told 65 = .ok (.goto (-48), 3) := by decide +kernel
theorem dX12_told_68 : decode cX12_told 68 = .ok (.iinc 4 1, 3) := by decide +kernel
theorem dX12_told_71 : decode cX12_told 71 = .ok (.goto (-66), 3) := by decide +kernel
theorem dX12_told_74 : decode cX12_told 74 = .ok (.iload_n 1, 1) := by decide +kernel
theorem dX12_told_75 : decode cX12_told 75 = .ok (.i2l, 1) := by decide +kernel
theorem dX12_told_76 : decode cX12_told 76 = .ok (.lconst 0, 1) := by decide +kernel
theorem dX12_told_77 : decode cX12_told 77 = .ok (.ldc2_w 295, 3) := by decide +kernel
theorem dX12_told_80 : decode cX12_told 80 = .ok (.invokestatic 157, 3) := by decide +kernel
theorem dX12_told_83 : decode cX12_told 83 = .ok (.ifCond .eq 12, 3) := by decide +kernel
theorem dX12_told_86 : decode cX12_told 86 = .ok (.aload_n 0, 1) := by decide +kernel
theorem dX12_told_87 : decode cX12_told 87 = .ok (.getfield 48, 3) := by decide +kernel
theorem dX12_told_90 : decode cX12_told 90 = .ok (.iload_n 1, 1) := by decide +kernel
theorem dX12_told_91 : decode cX12_told 91 = .ok (.laload, 1) := by decide +kernel
theorem dX12_told_92 : decode cX12_told 92 = .ok (.goto 27, 3) := by decide +kernel
theorem dX12_told_95 : decode cX12_told 95 = .ok (.iload_n 1, 1) := by decide +kernel
theorem dX12_told_96 : decode cX12_told 96 = .ok (.i2l, 1) := by decide +kernel
theorem dX12_told_97 : decode cX12_told 97 = .ok (.ldc2_w 297, 3) := by decide +kernel
theorem dX12_told_100 : decode cX12_told 100 = .ok (.ldc2_w 299, 3) := by decide +kernel
theorem dX12_told_103 : decode cX12_told 103 = .ok (.invokestatic 157, 3) := by decide +kernel
theorem dX12_told_106 : decode cX12_told 106 = .ok (.ifCond .eq 7, 3) := by decide +kernel
theorem dX12_told_109 : decode cX12_told 109 = .ok (.lload_n 2, 1) := by decide +kernel
theorem dX12_told_110 : decode cX12_told 110 = .ok (.goto 9, 3) := by decide +kernel
theorem dX12_told_113 : decode cX12_told 113 = .ok (.aload_n 0, 1) := by decide +kernel
theorem dX12_told_114 : decode cX12_told 114 = .ok (.bipush (-2), 2) := by decide +kernel
theorem dX12_told_116 : decode cX12_told 116 = .ok (.invokevirtual 188, 3) := by decide +kernel
theorem dX12_told_119 : decode cX12_told 119 = .ok (.lreturn, 1) := by decide +kernel
theorem dX12_given_0 : decode cX12_given 0 = .ok (.aload_n 0, 1) := by decide +kernel
theorem dX12_given_1 : decode cX12_given 1 = .ok (.iload_n 1, 1) := by decide +kernel
theorem dX12_given_2 : decode cX12_given 2 = .ok (.invokevirtual 177, 3) := by decide +kernel
theorem dX12_given_5 : decode cX12_given 5 = .ok (.ifCond .eq 12, 3) := by decide +kernel
theorem dX12_given_8 : decode cX12_given 8 = .ok (.aload_n 0, 1) := by decide +kernel
theorem dX12_given_9 : decode cX12_given 9 = .ok (.getfield 45, 3) := by decide +kernel
theorem dX12_given_12 : decode cX12_given 12 = .ok (.iload_n 1, 1) := by decide +kernel
theorem dX12_given_13 : decode cX12_given 13 = .ok (.laload, 1) := by decide +kernel
theorem dX12_given_14 : decode cX12_given 14 = .ok (.goto 8, 3) := by decide +kernel
theorem dX12_given_17 : decode cX12_given 17 = .ok (.aload_n 0, 1) := by decide +kernel
theorem dX12_given_18 : decode cX12_given 18 = .ok (.iconst (-1), 1) := by decide +kernel
theorem dX12_given_19 : decode cX12_given 19 = .ok (.invokevirtual 188, 3) := by decide +kernel
theorem dX12_given_22 : decode cX12_given 22 = .ok (.lreturn, 1) := by decide +kernel
theorem dX12_keeps_0 : decode cX12_keeps 0 = .ok (.aload_n 0, 1) := by decide +kernel
theorem dX12_keeps_1 : decode cX12_keeps 1 = .ok (.aload_n 0, 1) := by decide +kernel
theorem dX12_keeps_2 : decode cX12_keeps 2 = .ok (.getfield 167, 3) := by decide +kernel
theorem dX12_keeps_5 : decode cX12_keeps 5 = .ok (.putfield 301, 3) := by decide +kernel
theorem dX12_keeps_8 : decode cX12_keeps 8 = .ok (.iconst 0, 1) := by decide +kernel
theorem dX12_keeps_9 : decode cX12_keeps 9 = .ok (.istore_n 1, 1) := by decide +kernel
theorem dX12_keeps_10 : decode cX12_keeps 10 = .ok (.iload_n 1, 1) := by decide +kernel
theorem dX12_keeps_11 : decode cX12_keeps 11 = .ok (.bipush 64, 2) := by decide +kernel
theorem dX12_keeps_13 : decode cX12_keeps 13 = .ok (.if_icmp .ge 21, 3) := by decide +kernel
theorem dX12_keeps_16 : decode cX12_keeps 16 = .ok (.aload_n 0, 1) := by decide +kernel
theorem dX12_keeps_17 : decode cX12_keeps 17 = .ok (.getfield 130, 3) := by decide +kernel
theorem dX12_keeps_20 : decode cX12_keeps 20 = .ok (.iload_n 1, 1) := by decide +kernel
theorem dX12_keeps_21 : decode cX12_keeps 21 = .ok (.aload_n 0, 1) := by decide +kernel
theorem dX12_keeps_22 : decode cX12_keeps 22 = .ok (.getfield 41, 3) := by decide +kernel
theorem dX12_keeps_25 : decode cX12_keeps 25 = .ok (.iload_n 1, 1) := by decide +kernel
theorem dX12_keeps_26 : decode cX12_keeps 26 = .ok (.laload, 1) := by decide +kernel
theorem dX12_keeps_27 : decode cX12_keeps 27 = .ok (.lastore, 1) := by decide +kernel
theorem dX12_keeps_28 : decode cX12_keeps 28 = .ok (.iinc 1 1, 3) := by decide +kernel
theorem dX12_keeps_31 : decode cX12_keeps 31 = .ok (.goto (-21), 3) := by decide +kernel
theorem dX12_keeps_34 : decode cX12_keeps 34 = .ok (.iconst 0, 1) := by decide +kernel
theorem dX12_keeps_35 : decode cX12_keeps 35 = .ok (.istore_n 1, 1) := by decide +kernel
theorem dX12_keeps_36 : decode cX12_keeps 36 = .ok (.iload_n 1, 1) := by decide +kernel
theorem dX12_keeps_37 : decode cX12_keeps 37 = .ok (.bipush 9, 2) := by decide +kernel
theorem dX12_keeps_39 : decode cX12_keeps 39 = .ok (.if_icmp .ge 21, 3) := by decide +kernel
theorem dX12_keeps_42 : decode cX12_keeps 42 = .ok (.aload_n 0, 1) := by decide +kernel
theorem dX12_keeps_43 : decode cX12_keeps 43 = .ok (.getfield 136, 3) := by decide +kernel
theorem dX12_keeps_46 : decode cX12_keeps 46 = .ok (.iload_n 1, 1) := by decide +kernel
theorem dX12_keeps_47 : decode cX12_keeps 47 = .ok (.aload_n 0, 1) := by decide +kernel
theorem dX12_keeps_48 : decode cX12_keeps 48 = .ok (.getfield 48, 3) := by decide +kernel
theorem dX12_keeps_51 : decode cX12_keeps 51 = .ok (.iload_n 1, 1) := by decide +kernel
theorem dX12_keeps_52 : decode cX12_keeps 52 = .ok (.laload, 1) := by decide +kernel
theorem dX12_keeps_53 : decode cX12_keeps 53 = .ok (.lastore, 1) := by decide +kernel
theorem dX12_keeps_54 : decode cX12_keeps 54 = .ok (.iinc 1 1, 3) := by decide +kernel
theorem dX12_keeps_57 : decode cX12_keeps 57 = .ok (.goto (-21), 3) := by decide +kernel
theorem dX12_keeps_60 : decode cX12_keeps 60 = .ok (.iconst 0, 1) := by decide +kernel
theorem dX12_keeps_61 : decode cX12_keeps 61 = .ok (.istore_n 1, 1) := by decide +kernel
theorem dX12_keeps_62 : decode cX12_keeps 62 = .ok (.iload_n 1, 1) := by decide +kernel
theorem dX12_keeps_63 : decode cX12_keeps 63 = .ok (.bipush 8, 2) := by decide +kernel
theorem dX12_keeps_65 : decode cX12_keeps 65 = .ok (.if_icmp .ge 33, 3) := by decide +kernel
theorem dX12_keeps_68 : decode cX12_keeps 68 = .ok (.aload_n 0, 1) := by decide +kernel
theorem dX12_keeps_69 : decode cX12_keeps 69 = .ok (.getfield 133, 3) := by decide +kernel
theorem dX12_keeps_72 : decode cX12_keeps 72 = .ok (.iload_n 1, 1) := by decide +kernel
theorem dX12_keeps_73 : decode cX12_keeps 73 = .ok (.aload_n 0, 1) := by decide +kernel
theorem dX12_keeps_74 : decode cX12_keeps 74 = .ok (.getfield 45, 3) := by decide +kernel
theorem dX12_keeps_77 : decode cX12_keeps 77 = .ok (.iload_n 1, 1) := by decide +kernel
theorem dX12_keeps_78 : decode cX12_keeps 78 = .ok (.laload, 1) := by decide +kernel
theorem dX12_keeps_79 : decode cX12_keeps 79 = .ok (.lastore, 1) := by decide +kernel
theorem dX12_keeps_80 : decode cX12_keeps 80 = .ok (.aload_n 0, 1) := by decide +kernel
theorem dX12_keeps_81 : decode cX12_keeps 81 = .ok (.getfield 139, 3) := by decide +kernel
theorem dX12_keeps_84 : decode cX12_keeps 84 = .ok (.iload_n 1, 1) := by decide +kernel
theorem dX12_keeps_85 : decode cX12_keeps 85 = .ok (.aload_n 0, 1) := by decide +kernel
theorem dX12_keeps_86 : decode cX12_keeps 86 = .ok (.getfield 37, 3) := by decide +kernel
theorem dX12_keeps_89 : decode cX12_keeps 89 = .ok (.iload_n 1, 1) := by decide +kernel
theorem dX12_keeps_90 : decode cX12_keeps 90 = .ok (.baload, 1) := by decide +kernel
theorem dX12_keeps_91 : decode cX12_keeps 91 = .ok (.bastore, 1) := by decide +kernel
theorem dX12_keeps_92 : decode cX12_keeps 92 = .ok (.iinc 1 1, 3) := by decide +kernel
theorem dX12_keeps_95 : decode cX12_keeps 95 = .ok (.goto (-33), 3) := by decide +kernel
theorem dX12_keeps_98 : decode cX12_keeps 98 = .ok (.return_, 1) := by decide +kernel
theorem dX12_laysBack_0 : decode cX12_laysBack 0 = .ok (.aload_n 0, 1) := by decide +kernel
theorem dX12_laysBack_1 : decode cX12_laysBack 1 = .ok (.aload_n 0, 1) := by decide +kernel
theorem dX12_laysBack_2 : decode cX12_laysBack 2 = .ok (.getfield 301, 3) := by decide +kernel
theorem dX12_laysBack_5 : decode cX12_laysBack 5 = .ok (.putfield 167, 3) := by decide +kernel
theorem dX12_laysBack_8 : decode cX12_laysBack 8 = .ok (.iconst 0, 1) := by decide +kernel
theorem dX12_laysBack_9 : decode cX12_laysBack 9 = .ok (.istore_n 1, 1) := by decide +kernel
theorem dX12_laysBack_10 : decode cX12_laysBack 10 = .ok (.iload_n 1, 1) := by decide +kernel
theorem dX12_laysBack_11 : decode cX12_laysBack 11 = .ok (.bipush 64, 2) := by decide +kernel
theorem dX12_laysBack_13 : decode cX12_laysBack 13 = .ok (.if_icmp .ge 21, 3) := by decide +kernel
theorem dX12_laysBack_16 : decode cX12_laysBack 16 = .ok (.aload_n 0, 1) := by decide +kernel
theorem dX12_laysBack_17 : decode cX12_laysBack 17 = .ok (.getfield 41, 3) := by decide +kernel
theorem dX12_laysBack_20 : decode cX12_laysBack 20 = .ok (.iload_n 1, 1) := by decide +kernel
theorem dX12_laysBack_21 : decode cX12_laysBack 21 = .ok (.aload_n 0, 1) := by decide +kernel
theorem dX12_laysBack_22 : decode cX12_laysBack 22 = .ok (.getfield 130, 3) := by decide +kernel
theorem dX12_laysBack_25 : decode cX12_laysBack 25 = .ok (.iload_n 1, 1) := by decide +kernel
theorem dX12_laysBack_26 : decode cX12_laysBack 26 = .ok (.laload, 1) := by decide +kernel
theorem dX12_laysBack_27 : decode cX12_laysBack 27 = .ok (.lastore, 1) := by decide +kernel
theorem dX12_laysBack_28 : decode cX12_laysBack 28 = .ok (.iinc 1 1, 3) := by decide +kernel
theorem dX12_laysBack_31 : decode cX12_laysBack 31 = .ok (.goto (-21), 3) := by decide +kernel
theorem dX12_laysBack_34 : decode cX12_laysBack 34 = .ok (.iconst 0, 1) := by decide +kernel
theorem dX12_laysBack_35 : decode cX12_laysBack 35 = .ok (.istore_n 1, 1) := by decide +kernel
theorem dX12_laysBack_36 : decode cX12_laysBack 36 = .ok (.iload_n 1, 1) := by decide +kernel
theorem dX12_laysBack_37 : decode cX12_laysBack 37 = .ok (.bipush 9, 2) := by decide +kernel
theorem dX12_laysBack_39 : decode cX12_laysBack 39 = .ok (.if_icmp .ge 21, 3) := by decide +kernel
theorem dX12_laysBack_42 : decode cX12_laysBack 42 = .ok (.aload_n 0, 1) := by decide +kernel
theorem dX12_laysBack_43 : decode cX12_laysBack 43 = .ok (.getfield 48, 3) := by decide +kernel
theorem dX12_laysBack_46 : decode cX12_laysBack 46 = .ok (.iload_n 1, 1) := by decide +kernel
theorem dX12_laysBack_47 : decode cX12_laysBack 47 = .ok (.aload_n 0, 1) := by decide +kernel
theorem dX12_laysBack_48 : decode cX12_laysBack 48 = .ok (.getfield 136, 3) := by decide +kernel
theorem dX12_laysBack_51 : decode cX12_laysBack 51 = .ok (.iload_n 1, 1) := by decide +kernel
theorem dX12_laysBack_52 : decode cX12_laysBack 52 = .ok (.laload, 1) := by decide +kernel
theorem dX12_laysBack_53 : decode cX12_laysBack 53 = .ok (.lastore, 1) := by decide +kernel
theorem dX12_laysBack_54 : decode cX12_laysBack 54 = .ok (.iinc 1 1, 3) := by decide +kernel
theorem dX12_laysBack_57 : decode cX12_laysBack 57 = .ok (.goto (-21), 3) := by decide +kernel
theorem dX12_laysBack_60 : decode cX12_laysBack 60 = .ok (.iconst 0, 1) := by decide +kernel
theorem dX12_laysBack_61 : decode cX12_laysBack 61 = .ok (.istore_n 1, 1) := by decide +kernel
theorem dX12_laysBack_62 : decode cX12_laysBack 62 = .ok (.iload_n 1, 1) := by decide +kernel
theorem dX12_laysBack_63 : decode cX12_laysBack 63 = .ok (.bipush 8, 2) := by decide +kernel
theorem dX12_laysBack_65 : decode cX12_laysBack 65 = .ok (.if_icmp .ge 33, 3) := by decide +kernel
theorem dX12_laysBack_68 : decode cX12_laysBack 68 = .ok (.aload_n 0, 1) := by decide +kernel
theorem dX12_laysBack_69 : decode cX12_laysBack 69 = .ok (.getfield 45, 3) := by decide +kernel
theorem dX12_laysBack_72 : decode cX12_laysBack 72 = .ok (.iload_n 1, 1) := by decide +kernel
theorem dX12_laysBack_73 : decode cX12_laysBack 73 = .ok (.aload_n 0, 1) := by decide +kernel
theorem dX12_laysBack_74 : decode cX12_laysBack 74 = .ok (.getfield 133, 3) := by decide +kernel
theorem dX12_laysBack_77 : decode cX12_laysBack 77 = .ok (.iload_n 1, 1) := by decide +kernel
theorem dX12_laysBack_78 : decode cX12_laysBack 78 = .ok (.laload, 1) := by decide +kernel
theorem dX12_laysBack_79 : decode cX12_laysBack 79 = .ok (.lastore, 1) := by decide +kernel
theorem dX12_laysBack_80 : decode cX12_laysBack 80 = .ok (.aload_n 0, 1) := by decide +kernel
theorem dX12_laysBack_81 : decode cX12_laysBack 81 = .ok (.getfield 37, 3) := by decide +kernel
theorem dX12_laysBack_84 : decode cX12_laysBack 84 = .ok (.iload_n 1, 1) := by decide +kernel
theorem dX12_laysBack_85 : decode cX12_laysBack 85 = .ok (.aload_n 0, 1) := by decide +kernel
theorem dX12_laysBack_86 : decode cX12_laysBack 86 = .ok (.getfield 139, 3) := by decide +kernel
theorem dX12_laysBack_89 : decode cX12_laysBack 89 = .ok (.iload_n 1, 1) := by decide +kernel
theorem dX12_laysBack_90 : decode cX12_laysBack 90 = .ok (.baload, 1) := by decide +kernel
theorem dX12_laysBack_91 : decode cX12_laysBack 91 = .ok (.bastore, 1) := by decide +kernel
theorem dX12_laysBack_92 : decode cX12_laysBack 92 = .ok (.iinc 1 1, 3) := by decide +kernel
theorem dX12_laysBack_95 : decode cX12_laysBack 95 = .ok (.goto (-33), 3) := by decide +kernel
theorem dX12_laysBack_98 : decode cX12_laysBack 98 = .ok (.return_, 1) := by decide +kernel
theorem dX12_bars_0 : decode cX12_bars 0 = .ok (.iload_n 1, 1) := by decide +kernel
theorem dX12_bars_1 : decode cX12_bars 1 = .ok (.iconst 1, 1) := by decide +kernel
theorem dX12_bars_2 : decode cX12_bars 2 = .ok (.if_icmp .ge 8, 3) := by decide +kernel
theorem dX12_bars_5 : decode cX12_bars 5 = .ok (.bipush (-4), 2) := by decide +kernel
theorem dX12_bars_7 : decode cX12_bars 7 = .ok (.goto 14, 3) := by decide +kernel
theorem dX12_bars_10 : decode cX12_bars 10 = .ok (.iload_n 1, 1) := by decide +kernel
theorem dX12_bars_11 : decode cX12_bars 11 = .ok (.iload_n 2, 1) := by decide +kernel
theorem dX12_bars_12 : decode cX12_bars 12 = .ok (.if_icmp .le 8, 3) := by decide +kernel
theorem dX12_bars_15 : decode cX12_bars 15 = .ok (.bipush (-6), 2) := by decide +kernel
theorem dX12_bars_17 : decode cX12_bars 17 = .ok (.goto 4, 3) := by decide +kernel
theorem dX12_bars_20 : decode cX12_bars 20 = .ok (.iconst 0, 1) := by decide +kernel
theorem dX12_bars_21 : decode cX12_bars 21 = .ok (.ireturn, 1) := by decide +kernel
theorem dX12_ahead_0 : decode cX12_ahead 0 = .ok (.iload_n 2, 1) := by decide +kernel
theorem dX12_ahead_1 : decode cX12_ahead 1 = .ok (.ifCond .lt 13, 3) := by decide +kernel
theorem dX12_ahead_4 : decode cX12_ahead 4 = .ok (.iload_n 2, 1) := by decide +kernel
theorem dX12_ahead_5 : decode cX12_ahead 5 = .ok (.iconst 1, 1) := by decide +kernel
theorem dX12_ahead_6 : decode cX12_ahead 6 = .ok (.aload_n 0, 1) := by decide +kernel
theorem dX12_ahead_7 : decode cX12_ahead 7 = .ok (.getfield 154, 3) := by decide +kernel
theorem dX12_ahead_10 : decode cX12_ahead 10 = .ok (.ishl, 1) := by decide +kernel
theorem dX12_ahead_11 : decode cX12_ahead 11 = .ok (.if_icmp .lt 9, 3) := by decide +kernel
theorem dX12_ahead_14 : decode cX12_ahead 14 = .ok (.aload_n 0, 1) := by decide +kernel
theorem dX12_ahead_15 : decode cX12_ahead 15 = .ok (.iconst (-1), 1) := by decide +kernel
theorem dX12_ahead_16 : decode cX12_ahead 16 = .ok (.invokevirtual 188, 3) := by decide +kernel
theorem dX12_ahead_19 : decode cX12_ahead 19 = .ok (.lreturn, 1) := by decide +kernel
theorem dX12_ahead_20 : decode cX12_ahead 20 = .ok (.iload_n 3, 1) := by decide +kernel
theorem dX12_ahead_21 : decode cX12_ahead 21 = .ok (.i2l, 1) := by decide +kernel
theorem dX12_ahead_22 : decode cX12_ahead 22 = .ok (.lconst 0, 1) := by decide +kernel
theorem dX12_ahead_23 : decode cX12_ahead 23 = .ok (.ldc2_w 203, 3) := by decide +kernel
theorem dX12_ahead_26 : decode cX12_ahead 26 = .ok (.invokestatic 157, 3) := by decide +kernel
theorem dX12_ahead_29 : decode cX12_ahead 29 = .ok (.ifCond .ne 10, 3) := by decide +kernel
theorem dX12_ahead_32 : decode cX12_ahead 32 = .ok (.aload_n 0, 1) := by decide +kernel
theorem dX12_ahead_33 : decode cX12_ahead 33 = .ok (.bipush (-2), 2) := by decide +kernel
theorem dX12_ahead_35 : decode cX12_ahead 35 = .ok (.invokevirtual 188, 3) := by decide +kernel
theorem dX12_ahead_38 : decode cX12_ahead 38 = .ok (.lreturn, 1) := by decide +kernel
theorem dX12_ahead_39 : decode cX12_ahead 39 = .ok (.aload_n 0, 1) := by decide +kernel
theorem dX12_ahead_40 : decode cX12_ahead 40 = .ok (.iload_n 1, 1) := by decide +kernel
theorem dX12_ahead_41 : decode cX12_ahead 41 = .ok (.sipush 500, 3) := by decide +kernel
theorem dX12_ahead_44 : decode cX12_ahead 44 = .ok (.invokevirtual 304, 3) := by decide +kernel
theorem dX12_ahead_47 : decode cX12_ahead 47 = .ok (.ifCond .eq 16, 3) := by decide +kernel
theorem dX12_ahead_50 : decode cX12_ahead 50 = .ok (.aload_n 0, 1) := by decide +kernel
theorem dX12_ahead_51 : decode cX12_ahead 51 = .ok (.aload_n 0, 1) := by decide +kernel
theorem dX12_ahead_52 : decode cX12_ahead 52 = .ok (.iload_n 1, 1) := by decide +kernel
theorem dX12_ahead_53 : decode cX12_ahead 53 = .ok (.sipush 500, 3) := by decide +kernel
theorem dX12_ahead_56 : decode cX12_ahead 56 = .ok (.invokevirtual 304, 3) := by decide +kernel
theorem dX12_ahead_59 : decode cX12_ahead 59 = .ok (.invokevirtual 188, 3) := by decide +kernel
theorem dX12_ahead_62 : decode cX12_ahead 62 = .ok (.lreturn, 1) := by decide +kernel
theorem dX12_ahead_63 : decode cX12_ahead 63 = .ok (.aload_n 0, 1) := by decide +kernel
theorem dX12_ahead_64 : decode cX12_ahead 64 = .ok (.getfield 154, 3) := by decide +kernel
theorem dX12_ahead_67 : decode cX12_ahead 67 = .ok (.ifCond .ne 15, 3) := by decide +kernel
theorem dX12_ahead_70 : decode cX12_ahead 70 = .ok (.iload_n 3, 1) := by decide +kernel
theorem dX12_ahead_71 : decode cX12_ahead 71 = .ok (.iconst 2, 1) := by decide +kernel
theorem dX12_ahead_72 : decode cX12_ahead 72 = .ok (.if_icmp .ge 10, 3) := by decide +kernel
theorem dX12_ahead_75 : decode cX12_ahead 75 = .ok (.aload_n 0, 1) := by decide +kernel
theorem dX12_ahead_76 : decode cX12_ahead 76 = .ok (.bipush (-3), 2) := by decide +kernel
theorem dX12_ahead_78 : decode cX12_ahead 78 = .ok (.invokevirtual 188, 3) := by decide +kernel
theorem dX12_ahead_81 : decode cX12_ahead 81 = .ok (.lreturn, 1) := by decide +kernel
theorem dX12_ahead_82 : decode cX12_ahead 82 = .ok (.aload_n 0, 1) := by decide +kernel
theorem dX12_ahead_83 : decode cX12_ahead 83 = .ok (.invokevirtual 307, 3) := by decide +kernel
theorem dX12_ahead_86 : decode cX12_ahead 86 = .ok (.iconst 0, 1) := by decide +kernel
theorem dX12_ahead_87 : decode cX12_ahead 87 = .ok (.istore 4, 2) := by decide +kernel
theorem dX12_ahead_89 : decode cX12_ahead 89 = .ok (.iload 4, 2) := by decide +kernel
theorem dX12_ahead_91 : decode cX12_ahead 91 = .ok (.aload_n 0, 1) := by decide +kernel
theorem dX12_ahead_92 : decode cX12_ahead 92 = .ok (.getfield 154, 3) := by decide +kernel
theorem dX12_ahead_95 : decode cX12_ahead 95 = .ok (.if_icmp .ge 40, 3) := by decide +kernel
theorem dX12_ahead_98 : decode cX12_ahead 98 = .ok (.aload_n 0, 1) := by decide +kernel
theorem dX12_ahead_99 : decode cX12_ahead 99 = .ok (.getfield 37, 3) := by decide +kernel
theorem dX12_ahead_102 : decode cX12_ahead 102 = .ok (.iload 4, 2) := by decide +kernel
theorem dX12_ahead_104 : decode cX12_ahead 104 = .ok (.aload_n 0, 1) := by decide +kernel
theorem dX12_ahead_105 : decode cX12_ahead 105 = .ok (.getfield 37, 3) := by decide +kernel
theorem dX12_ahead_108 : decode cX12_ahead 108 = .ok (.iload 4, 2) := by decide +kernel
theorem dX12_ahead_110 : decode cX12_ahead 110 = .ok (.baload, 1) := by decide +kernel
theorem dX12_ahead_111 : decode cX12_ahead 111 = .ok (.ifCond .eq 16, 3) := by decide +kernel
theorem dX12_ahead_114 : decode cX12_ahead 114 = .ok (.iload_n 2, 1) := by decide +kernel
theorem dX12_ahead_115 : decode cX12_ahead 115 = .ok (.iload 4, 2) := by decide +kernel
theorem dX12_ahead_117 : decode cX12_ahead 117 = .ok (.ishr, 1) := by decide +kernel
theorem dX12_ahead_118 : decode cX12_ahead 118 = .ok (.iconst 1, 1) := by decide +kernel
theorem dX12_ahead_119 : decode cX12_ahead 119 = .ok (.iand, 1) := by decide +kernel
theorem dX12_ahead_120 : decode cX12_ahead 120 = .ok (.ifCond .ne 7, 3) := by decide +kernel
theorem dX12_ahead_123 : decode cX12_ahead 123 = .ok (.iconst 1, 1) := by decide +kernel
theorem dX12_ahead_124 : decode cX12_ahead 124 = .ok (.goto 4, 3) := by decide +kernel
theorem dX12_ahead_127 : decode cX12_ahead 127 = .ok (.iconst 0, 1) := by decide +kernel
theorem dX12_ahead_128 : decode cX12_ahead 128 = .ok (.bastore, 1) := by decide +kernel
theorem dX12_ahead_129 : decode cX12_ahead 129 = .ok (.iinc 4 1, 3) := by decide +kernel
theorem dX12_ahead_132 : decode cX12_ahead 132 = .ok (.goto (-43), 3) := by decide +kernel
theorem dX12_ahead_135 : decode cX12_ahead 135 = .ok (.ldc2_w 312, 3) := by decide +kernel
theorem dX12_ahead_138 : decode cX12_ahead 138 = .ok (.lstore 4, 2) := by decide +kernel
theorem dX12_ahead_140 : decode cX12_ahead 140 = .ok (.lconst 0, 1) := by decide +kernel
theorem dX12_ahead_141 : decode cX12_ahead 141 = .ok (.lstore 6, 2) := by decide +kernel
theorem dX12_ahead_143 : decode cX12_ahead 143 = .ok (.iconst 0, 1) := by decide +kernel
theorem dX12_ahead_144 : decode cX12_ahead 144 = .ok (.istore 8, 2) := by decide +kernel
theorem dX12_ahead_146 : decode cX12_ahead 146 = .ok (.iload 8, 2) := by decide +kernel
theorem dX12_ahead_148 : decode cX12_ahead 148 = .ok (.iload_n 1, 1) := by decide +kernel
theorem dX12_ahead_149 : decode cX12_ahead 149 = .ok (.if_icmp .ge 62, 3) := by decide +kernel
theorem dX12_ahead_152 : decode cX12_ahead 152 = .ok (.aload_n 0, 1) := by decide +kernel
theorem dX12_ahead_153 : decode cX12_ahead 153 = .ok (.invokevirtual 170, 3) := by decide +kernel
theorem dX12_ahead_156 : decode cX12_ahead 156 = .ok (.iconst 0, 1) := by decide +kernel
theorem dX12_ahead_157 : decode cX12_ahead 157 = .ok (.istore 9, 2) := by decide +kernel
theorem dX12_ahead_159 : decode cX12_ahead 159 = .ok (.iload 9, 2) := by decide +kernel
theorem dX12_ahead_161 : decode cX12_ahead 161 = .ok (.aload_n 0, 1) := by decide +kernel
theorem dX12_ahead_162 : decode cX12_ahead 162 = .ok (.getfield 154, 3) := by decide +kernel
theorem dX12_ahead_165 : decode cX12_ahead 165 = .ok (.if_icmp .ge 40, 3) := by decide +kernel
theorem dX12_ahead_168 : decode cX12_ahead 168 = .ok (.aload_n 0, 1) := by decide +kernel
theorem dX12_ahead_169 : decode cX12_ahead 169 = .ok (.iload 9, 2) := by decide +kernel
theorem dX12_ahead_171 : decode cX12_ahead 171 = .ok (.iconst 0, 1) := by decide +kernel
theorem dX12_ahead_172 : decode cX12_ahead 172 = .ok (.invokevirtual 192, 3) := by decide +kernel
theorem dX12_ahead_175 : decode cX12_ahead 175 = .ok (.lload 4, 2) := by decide +kernel
theorem dX12_ahead_177 : decode cX12_ahead 177 = .ok (.lcmp, 1) := by decide +kernel
theorem dX12_ahead_178 : decode cX12_ahead 178 = .ok (.ifCond .ge 21, 3) := by decide +kernel
theorem dX12_ahead_181 : decode cX12_ahead 181 = .ok (.aload_n 0, 1) := by decide +kernel
theorem dX12_ahead_182 : decode cX12_ahead 182 = .ok (.iload 9, 2) := by decide +kernel
theorem dX12_ahead_184 : decode cX12_ahead 184 = .ok (.iconst 0, 1) := by decide +kernel
theorem dX12_ahead_185 : decode cX12_ahead 185 = .ok (.invokevirtual 192, 3) := by decide +kernel
theorem dX12_ahead_188 : decode cX12_ahead 188 = .ok (.lstore 4, 2) := by decide +kernel
theorem dX12_ahead_190 : decode cX12_ahead 190 = .ok (.aload_n 0, 1) := by decide +kernel
theorem dX12_ahead_191 : decode cX12_ahead 191 = .ok (.getfield 167, 3) := by decide +kernel
theorem dX12_ahead_194 : decode cX12_ahead 194 = .ok (.iconst 1, 1) := by decide +kernel
theorem dX12_ahead_195 : decode cX12_ahead 195 = .ok (.isub, 1) := by decide +kernel
theorem dX12_ahead_196 : decode cX12_ahead 196 = .ok (.i2l, 1) := by decide +kernel
theorem dX12_ahead_197 : decode cX12_ahead 197 = .ok (.lstore 6, 2) := by decide +kernel
theorem dX12_ahead_199 : decode cX12_ahead 199 = .ok (.iinc 9 1, 3) := by decide +kernel
theorem dX12_ahead_202 : decode cX12_ahead 202 = .ok (.goto (-43), 3) := by decide +kernel
theorem dX12_ahead_205 : decode cX12_ahead 205 = .ok (.iinc 8 1, 3) := by decide +kernel
theorem dX12_ahead_208 : decode cX12_ahead 208 = .ok (.goto (-62), 3) := by decide +kernel
theorem dX12_ahead_211 : decode cX12_ahead 211 = .ok (.aload_n 0, 1) := by decide +kernel
theorem dX12_ahead_212 : decode cX12_ahead 212 = .ok (.getfield 48, 3) := by decide +kernel
theorem dX12_ahead_215 : decode cX12_ahead 215 = .ok (.iconst 5, 1) := by decide +kernel
theorem dX12_ahead_216 : decode cX12_ahead 216 = .ok (.laload, 1) := by decide +kernel
theorem dX12_ahead_217 : decode cX12_ahead 217 = .ok (.aload_n 0, 1) := by decide +kernel
theorem dX12_ahead_218 : decode cX12_ahead 218 = .ok (.getfield 136, 3) := by decide +kernel
theorem dX12_ahead_221 : decode cX12_ahead 221 = .ok (.iconst 5, 1) := by decide +kernel
theorem dX12_ahead_222 : decode cX12_ahead 222 = .ok (.laload, 1) := by decide +kernel
theorem dX12_ahead_223 : decode cX12_ahead 223 = .ok (.lsub, 1) := by decide +kernel
theorem dX12_ahead_224 : decode cX12_ahead 224 = .ok (.lstore 8, 2) := by decide +kernel
theorem dX12_ahead_226 : decode cX12_ahead 226 = .ok (.aload_n 0, 1) := by decide +kernel
theorem dX12_ahead_227 : decode cX12_ahead 227 = .ok (.invokevirtual 314, 3) := by decide +kernel
theorem dX12_ahead_230 : decode cX12_ahead 230 = .ok (.iload_n 3, 1) := by decide +kernel
theorem dX12_ahead_231 : decode cX12_ahead 231 = .ok (.ifCond .ne 8, 3) := by decide +kernel
theorem dX12_ahead_234 : decode cX12_ahead 234 = .ok (.lload 4, 2) := by decide +kernel
theorem dX12_ahead_236 : decode cX12_ahead 236 = .ok (.goto 15, 3) := by decide +kernel
theorem dX12_ahead_239 : decode cX12_ahead 239 = .ok (.iload_n 3, 1) := by decide +kernel
theorem dX12_ahead_240 : decode cX12_ahead 240 = .ok (.iconst 1, 1) := by decide +kernel
theorem dX12_ahead_241 : decode cX12_ahead 241 = .ok (.if_icmp .ne 8, 3) := by decide +kernel
theorem dX12_ahead_244 : decode cX12_ahead 244 = .ok (.lload 6, 2) := by decide +kernel
theorem dX12_ahead_246 : decode cX12_ahead 246 = .ok (.goto 5, 3) := by decide +kernel
theorem dX12_ahead_249 : decode cX12_ahead 249 = .ok (.lload 8, 2) := by decide +kernel
theorem dX12_ahead_251 : decode cX12_ahead 251 = .ok (.lreturn, 1) := by decide +kernel
theorem dX12_many_0 : decode cX12_many 0 = .ok (.iconst 0, 1) := by decide +kernel
theorem dX12_many_1 : decode cX12_many 1 = .ok (.istore_n 1, 1) := by decide +kernel
theorem dX12_many_2 : decode cX12_many 2 = .ok (.iconst 0, 1) := by decide +kernel
theorem dX12_many_3 : decode cX12_many 3 = .ok (.istore_n 2, 1) := by decide +kernel
theorem dX12_many_4 : decode cX12_many 4 = .ok (.iload_n 2, 1) := by decide +kernel
theorem dX12_many_5 : decode cX12_many 5 = .ok (.bipush 8, 2) := by decide +kernel
theorem dX12_many_7 : decode cX12_many 7 = .ok (.if_icmp .ge 17, 3) := by decide +kernel
theorem dX12_many_10 : decode cX12_many 10 = .ok (.iload_n 1, 1) := by decide +kernel
theorem dX12_many_11 : decode cX12_many 11 = .ok (.iload_n 0, 1) := by decide +kernel
theorem dX12_many_12 : decode cX12_many 12 = .ok (.iload_n 2, 1) := by decide +kernel
theorem dX12_many_13 : decode cX12_many 13 = .ok (.ishr, 1) := by decide +kernel
theorem dX12_many_14 : decode cX12_many 14 = .ok (.iconst 1, 1) := by decide +kernel
theorem dX12_many_15 : decode cX12_many 15 = .ok (.iand, 1) := by decide +kernel
theorem dX12_many_16 : decode cX12_many 16 = .ok (.iadd, 1) := by decide +kernel
theorem dX12_many_17 : decode cX12_many 17 = .ok (.istore_n 1, 1) := by decide +kernel
theorem dX12_many_18 : decode cX12_many 18 = .ok (.iinc 2 1, 3) := by decide +kernel
theorem dX12_many_21 : decode cX12_many 21 = .ok (.goto (-17), 3) := by decide +kernel
theorem dX12_many_24 : decode cX12_many 24 = .ok (.iload_n 1, 1) := by decide +kernel
theorem dX12_many_25 : decode cX12_many 25 = .ok (.ireturn, 1) := by decide +kernel
theorem dX12_few_0 : decode cX12_few 0 = .ok (.iload_n 1, 1) := by decide +kernel
theorem dX12_few_1 : decode cX12_few 1 = .ok (.iconst 1, 1) := by decide +kernel
theorem dX12_few_2 : decode cX12_few 2 = .ok (.if_icmp .lt 7, 3) := by decide +kernel
theorem dX12_few_5 : decode cX12_few 5 = .ok (.iload_n 2, 1) := by decide +kernel
theorem dX12_few_6 : decode cX12_few 6 = .ok (.ifCond .ge 10, 3) := by decide +kernel
theorem dX12_few_9 : decode cX12_few 9 = .ok (.aload_n 0, 1) := by decide +kernel
theorem dX12_few_10 : decode cX12_few 10 = .ok (.bipush (-4), 2) := by decide +kernel
theorem dX12_few_12 : decode cX12_few 12 = .ok (.invokevirtual 150, 3) := by decide +kernel
theorem dX12_few_15 : decode cX12_few 15 = .ok (.ireturn, 1) := by decide +kernel
theorem dX12_few_16 : decode cX12_few 16 = .ok (.iload_n 1, 1) := by decide +kernel
theorem dX12_few_17 : decode cX12_few 17 = .ok (.bipush 100, 2) := by decide +kernel
theorem dX12_few_19 : decode cX12_few 19 = .ok (.if_icmp .gt 9, 3) := by decide +kernel
theorem dX12_few_22 : decode cX12_few 22 = .ok (.iload_n 2, 1) := by decide +kernel
theorem dX12_few_23 : decode cX12_few 23 = .ok (.ldc 199, 2) := by decide +kernel
theorem dX12_few_25 : decode cX12_few 25 = .ok (.if_icmp .le 10, 3) := by decide +kernel
theorem dX12_few_28 : decode cX12_few 28 = .ok (.aload_n 0, 1) := by decide +kernel
theorem dX12_few_29 : decode cX12_few 29 = .ok (.bipush (-6), 2) := by decide +kernel
theorem dX12_few_31 : decode cX12_few 31 = .ok (.invokevirtual 150, 3) := by decide +kernel
theorem dX12_few_34 : decode cX12_few 34 = .ok (.ireturn, 1) := by decide +kernel
theorem dX12_few_35 : decode cX12_few 35 = .ok (.aload_n 0, 1) := by decide +kernel
theorem dX12_few_36 : decode cX12_few 36 = .ok (.invokevirtual 307, 3) := by decide +kernel
theorem dX12_few_39 : decode cX12_few 39 = .ok (.bipush (-9), 2) := by decide +kernel
theorem dX12_few_41 : decode cX12_few 41 = .ok (.istore_n 3, 1) := by decide +kernel
theorem dX12_few_42 : decode cX12_few 42 = .ok (.iconst 0, 1) := by decide +kernel
theorem dX12_few_43 : decode cX12_few 43 = .ok (.istore 4, 2) := by decide +kernel
theorem dX12_few_45 : decode cX12_few 45 = .ok (.iload 4, 2) := by decide +kernel
theorem dX12_few_47 : decode cX12_few 47 = .ok (.iconst 1, 1) := by decide +kernel
theorem dX12_few_48 : decode cX12_few 48 = .ok (.aload_n 0, 1) := by decide +kernel
theorem dX12_few_49 : decode cX12_few 49 = .ok (.getfield 154, 3) := by decide +kernel
theorem dX12_few_52 : decode cX12_few 52 = .ok (.ishl, 1) := by decide +kernel
theorem dX12_few_53 : decode cX12_few 53 = .ok (.if_icmp .ge 117, 3) := by decide +kernel
theorem dX12_few_56 : decode cX12_few 56 = .ok (.iload_n 3, 1) := by decide +kernel
theorem dX12_few_57 : decode cX12_few 57 = .ok (.bipush (-9), 2) := by decide +kernel
theorem dX12_few_59 : decode cX12_few 59 = .ok (.if_icmp .eq 15, 3) := by decide +kernel
theorem dX12_few_62 : decode cX12_few 62 = .ok (.iload 4, 2) := by decide +kernel
theorem dX12_few_64 : decode cX12_few 64 = .ok (.invokestatic 317, 3) := by decide +kernel
theorem dX12_few_67 : decode cX12_few 67 = .ok (.iload_n 3, 1) := by decide +kernel
theorem dX12_few_68 : decode cX12_few 68 = .ok (.invokestatic 317, 3) := by decide +kernel
theorem dX12_few_71 : decode cX12_few 71 = .ok (.if_icmp .ge 93, 3) := by decide +kernel
theorem dX12_few_74 : decode cX12_few 74 = .ok (.iconst 0, 1) := by decide +kernel
theorem dX12_few_75 : decode cX12_few 75 = .ok (.istore 5, 2) := by decide +kernel
theorem dX12_few_77 : decode cX12_few 77 = .ok (.iload 5, 2) := by decide +kernel
theorem dX12_few_79 : decode cX12_few 79 = .ok (.aload_n 0, 1) := by decide +kernel
theorem dX12_few_80 : decode cX12_few 80 = .ok (.getfield 154, 3) := by decide +kernel
theorem dX12_few_83 : decode cX12_few 83 = .ok (.if_icmp .ge 32, 3) := by decide +kernel
theorem dX12_few_86 : decode cX12_few 86 = .ok (.aload_n 0, 1) := by decide +kernel
theorem dX12_few_87 : decode cX12_few 87 = .ok (.getfield 37, 3) := by decide +kernel
theorem dX12_few_90 : decode cX12_few 90 = .ok (.iload 5, 2) := by decide +kernel
theorem dX12_few_92 : decode cX12_few 92 = .ok (.iload 4, 2) := by decide +kernel
theorem dX12_few_94 : decode cX12_few 94 = .ok (.iload 5, 2) := by decide +kernel
theorem dX12_few_96 : decode cX12_few 96 = .ok (.ishr, 1) := by decide +kernel
theorem dX12_few_97 : decode cX12_few 97 = .ok (.iconst 1, 1) := by decide +kernel
theorem dX12_few_98 : decode cX12_few 98 = .ok (.iand, 1) := by decide +kernel
theorem dX12_few_99 : decode cX12_few 99 = .ok (.iconst 1, 1) := by decide +kernel
theorem dX12_few_100 : decode cX12_few 100 = .ok (.if_icmp .ne 7, 3) := by decide +kernel
theorem dX12_few_103 : decode cX12_few 103 = .ok (.iconst 1, 1) := by decide +kernel
theorem dX12_few_104 : decode cX12_few 104 = .ok (.goto 4, 3) := by decide +kernel
theorem dX12_few_107 : decode cX12_few 107 = .ok (.iconst 0, 1) := by decide +kernel
theorem dX12_few_108 : decode cX12_few 108 = .ok (.bastore, 1) := by decide +kernel
theorem dX12_few_109 : decode cX12_few 109 = .ok (.iinc 5 1, 3) := by decide +kernel
theorem dX12_few_112 : decode cX12_few 112 = .ok (.goto (-35), 3) := by decide +kernel
theorem dX12_few_115 : decode cX12_few 115 = .ok (.iconst 0, 1) := by decide +kernel
theorem dX12_few_116 : decode cX12_few 116 = .ok (.istore 5, 2) := by decide +kernel
theorem dX12_few_118 : decode cX12_few 118 = .ok (.iload 5, 2) := by decide +kernel
theorem dX12_few_120 : decode cX12_few 120 = .ok (.iload_n 1, 1) := by decide +kernel
theorem dX12_few_121 : decode cX12_few 121 = .ok (.if_icmp .ge 13, 3) := by decide +kernel
theorem dX12_few_124 : decode cX12_few 124 = .ok (.aload_n 0, 1) := by decide +kernel
theorem dX12_few_125 : decode cX12_few 125 = .ok (.invokevirtual 170, 3) := by decide +kernel
theorem dX12_few_128 : decode cX12_few 128 = .ok (.iinc 5 1, 3) := by decide +kernel
theorem dX12_few_131 : decode cX12_few 131 = .ok (.goto (-13), 3) := by decide +kernel
theorem dX12_few_134 : decode cX12_few 134 = .ok (.aload_n 0, 1) := by decide +kernel
theorem dX12_few_135 : decode cX12_few 135 = .ok (.getfield 48, 3) := by decide +kernel
theorem dX12_few_138 : decode cX12_few 138 = .ok (.iconst 5, 1) := by decide +kernel
theorem dX12_few_139 : decode cX12_few 139 = .ok (.laload, 1) := by decide +kernel
theorem dX12_few_140 : decode cX12_few 140 = .ok (.aload_n 0, 1) := by decide +kernel
theorem dX12_few_141 : decode cX12_few 141 = .ok (.getfield 136, 3) := by decide +kernel
theorem dX12_few_144 : decode cX12_few 144 = .ok (.iconst 5, 1) := by decide +kernel
theorem dX12_few_145 : decode cX12_few 145 = .ok (.laload, 1) := by decide +kernel
theorem dX12_few_146 : decode cX12_few 146 = .ok (.lsub, 1) := by decide +kernel
theorem dX12_few_147 : decode cX12_few 147 = .ok (.iload_n 2, 1) := by decide +kernel
theorem dX12_few_148 : decode cX12_few 148 = .ok (.i2l, 1) := by decide +kernel
theorem dX12_few_149 : decode cX12_few 149 = .ok (.lcmp, 1) := by decide +kernel
theorem dX12_few_150 : decode cX12_few 150 = .ok (.ifCond .gt 8, 3) := by decide +kernel
theorem dX12_few_153 : decode cX12_few 153 = .ok (.iload 4, 2) := by decide +kernel
theorem dX12_few_155 : decode cX12_few 155 = .ok (.goto 4, 3) := by decide +kernel
theorem dX12_few_158 : decode cX12_few 158 = .ok (.iload_n 3, 1) := by decide +kernel
theorem dX12_few_159 : decode cX12_few 159 = .ok (.istore_n 3, 1) := by decide +kernel
theorem dX12_few_160 : decode cX12_few 160 = .ok (.aload_n 0, 1) := by decide +kernel
theorem dX12_few_161 : decode cX12_few 161 = .ok (.invokevirtual 314, 3) := by decide +kernel
theorem dX12_few_164 : decode cX12_few 164 = .ok (.iinc 4 1, 3) := by decide +kernel
theorem dX12_few_167 : decode cX12_few 167 = .ok (.goto (-122), 3) := by decide +kernel
theorem dX12_few_170 : decode cX12_few 170 = .ok (.iload_n 3, 1) := by decide +kernel
theorem dX12_few_171 : decode cX12_few 171 = .ok (.ireturn, 1) := by decide +kernel
theorem dX12_givenBy_0 : decode cX12_givenBy 0 = .ok (.aload_n 0, 1) := by decide +kernel
theorem dX12_givenBy_1 : decode cX12_givenBy 1 = .ok (.invokevirtual 307, 3) := by decide +kernel
theorem dX12_givenBy_4 : decode cX12_givenBy 4 = .ok (.iload_n 2, 1) := by decide +kernel
theorem dX12_givenBy_5 : decode cX12_givenBy 5 = .ok (.ifCond .lt 10, 3) := by decide +kernel
theorem dX12_givenBy_8 : decode cX12_givenBy 8 = .ok (.aload_n 0, 1) := by decide +kernel
theorem dX12_givenBy_9 : decode cX12_givenBy 9 = .ok (.getfield 37, 3) := by decide +kernel
theorem dX12_givenBy_12 : decode cX12_givenBy 12 = .ok (.iload_n 2, 1) := by decide +kernel
theorem dX12_givenBy_13 : decode cX12_givenBy 13 = .ok (.iconst 0, 1) := by decide +kernel
theorem dX12_givenBy_14 : decode cX12_givenBy 14 = .ok (.bastore, 1) := by decide +kernel
theorem dX12_givenBy_15 : decode cX12_givenBy 15 = .ok (.iconst 0, 1) := by decide +kernel
theorem dX12_givenBy_16 : decode cX12_givenBy 16 = .ok (.istore 4, 2) := by decide +kernel
theorem dX12_givenBy_18 : decode cX12_givenBy 18 = .ok (.iload 4, 2) := by decide +kernel
theorem dX12_givenBy_20 : decode cX12_givenBy 20 = .ok (.iload_n 3, 1) := by decide +kernel
theorem dX12_givenBy_21 : decode cX12_givenBy 21 = .ok (.if_icmp .ge 13, 3) := by decide +kernel
theorem dX12_givenBy_24 : decode cX12_givenBy 24 = .ok (.aload_n 0, 1) := by decide +kernel
theorem dX12_givenBy_25 : decode cX12_givenBy 25 = .ok (.invokevirtual 170, 3) := by decide +kernel
theorem dX12_givenBy_28 : decode cX12_givenBy 28 = .ok (.iinc 4 1, 3) := by decide +kernel
theorem dX12_givenBy_31 : decode cX12_givenBy 31 = .ok (.goto (-13), 3) := by decide +kernel
theorem dX12_givenBy_34 : decode cX12_givenBy 34 = .ok (.aload_n 0, 1) := by decide +kernel
theorem dX12_givenBy_35 : decode cX12_givenBy 35 = .ok (.getfield 45, 3) := by decide +kernel
theorem dX12_givenBy_38 : decode cX12_givenBy 38 = .ok (.iload_n 1, 1) := by decide +kernel
theorem dX12_givenBy_39 : decode cX12_givenBy 39 = .ok (.laload, 1) := by decide +kernel
theorem dX12_givenBy_40 : decode cX12_givenBy 40 = .ok (.aload_n 0, 1) := by decide +kernel
theorem dX12_givenBy_41 : decode cX12_givenBy 41 = .ok (.getfield 133, 3) := by decide +kernel
theorem dX12_givenBy_44 : decode cX12_givenBy 44 = .ok (.iload_n 1, 1) := by decide +kernel
theorem dX12_givenBy_45 : decode cX12_givenBy 45 = .ok (.laload, 1) := by decide +kernel
theorem dX12_givenBy_46 : decode cX12_givenBy 46 = .ok (.lsub, 1) := by decide +kernel
theorem dX12_givenBy_47 : decode cX12_givenBy 47 = .ok (.lstore 4, 2) := by decide +kernel
theorem dX12_givenBy_49 : decode cX12_givenBy 49 = .ok (.aload_n 0, 1) := by decide +kernel
theorem dX12_givenBy_50 : decode cX12_givenBy 50 = .ok (.invokevirtual 314, 3) := by decide +kernel
theorem dX12_givenBy_53 : decode cX12_givenBy 53 = .ok (.lload 4, 2) := by decide +kernel
theorem dX12_givenBy_55 : decode cX12_givenBy 55 = .ok (.lreturn, 1) := by decide +kernel
theorem dX12_takenFrom_0 : decode cX12_takenFrom 0 = .ok (.aload_n 0, 1) := by decide +kernel
theorem dX12_takenFrom_1 : decode cX12_takenFrom 1 = .ok (.iload_n 1, 1) := by decide +kernel
theorem dX12_takenFrom_2 : decode cX12_takenFrom 2 = .ok (.invokevirtual 177, 3) := by decide +kernel
theorem dX12_takenFrom_5 : decode cX12_takenFrom 5 = .ok (.ifCond .eq 16, 3) := by decide +kernel
theorem dX12_takenFrom_8 : decode cX12_takenFrom 8 = .ok (.aload_n 0, 1) := by decide +kernel
theorem dX12_takenFrom_9 : decode cX12_takenFrom 9 = .ok (.iload_n 2, 1) := by decide +kernel
theorem dX12_takenFrom_10 : decode cX12_takenFrom 10 = .ok (.invokevirtual 177, 3) := by decide +kernel
theorem dX12_takenFrom_13 : decode cX12_takenFrom 13 = .ok (.ifCond .eq 8, 3) := by decide +kernel
theorem dX12_takenFrom_16 : decode cX12_takenFrom 16 = .ok (.iload_n 1, 1) := by decide +kernel
theorem dX12_takenFrom_17 : decode cX12_takenFrom 17 = .ok (.iload_n 2, 1) := by decide +kernel
theorem dX12_takenFrom_18 : decode cX12_takenFrom 18 = .ok (.if_icmp .ne 9, 3) := by decide +kernel
theorem dX12_takenFrom_21 : decode cX12_takenFrom 21 = .ok (.aload_n 0, 1) := by decide +kernel
theorem dX12_takenFrom_22 : decode cX12_takenFrom 22 = .ok (.iconst (-1), 1) := by decide +kernel
theorem dX12_takenFrom_23 : decode cX12_takenFrom 23 = .ok (.invokevirtual 188, 3) := by decide +kernel
theorem dX12_takenFrom_26 : decode cX12_takenFrom 26 = .ok (.lreturn, 1) := by decide +kernel
theorem dX12_takenFrom_27 : decode cX12_takenFrom 27 = .ok (.aload_n 0, 1) := by decide +kernel
theorem dX12_takenFrom_28 : decode cX12_takenFrom 28 = .ok (.iload_n 3, 1) := by decide +kernel
theorem dX12_takenFrom_29 : decode cX12_takenFrom 29 = .ok (.sipush 500, 3) := by decide +kernel
theorem dX12_takenFrom_32 : decode cX12_takenFrom 32 = .ok (.invokevirtual 304, 3) := by decide +kernel
theorem dX12_takenFrom_35 : decode cX12_takenFrom 35 = .ok (.ifCond .eq 16, 3) := by decide +kernel
theorem dX12_takenFrom_38 : decode cX12_takenFrom 38 = .ok (.aload_n 0, 1) := by decide +kernel
theorem dX12_takenFrom_39 : decode cX12_takenFrom 39 = .ok (.aload_n 0, 1) := by decide +kernel
theorem dX12_takenFrom_40 : decode cX12_takenFrom 40 = .ok (.iload_n 3, 1) := by decide +kernel
theorem dX12_takenFrom_41 : decode cX12_takenFrom 41 = .ok (.sipush 500, 3) := by decide +kernel
theorem dX12_takenFrom_44 : decode cX12_takenFrom 44 = .ok (.invokevirtual 304, 3) := by decide +kernel
theorem dX12_takenFrom_47 : decode cX12_takenFrom 47 = .ok (.invokevirtual 188, 3) := by decide +kernel
theorem dX12_takenFrom_50 : decode cX12_takenFrom 50 = .ok (.lreturn, 1) := by decide +kernel
theorem dX12_takenFrom_51 : decode cX12_takenFrom 51 = .ok (.aload_n 0, 1) := by decide +kernel
theorem dX12_takenFrom_52 : decode cX12_takenFrom 52 = .ok (.iload_n 1, 1) := by decide +kernel
theorem dX12_takenFrom_53 : decode cX12_takenFrom 53 = .ok (.iload_n 2, 1) := by decide +kernel
theorem dX12_takenFrom_54 : decode cX12_takenFrom 54 = .ok (.iload_n 3, 1) := by decide +kernel
theorem dX12_takenFrom_55 : decode cX12_takenFrom 55 = .ok (.invokevirtual 320, 3) := by decide +kernel
theorem dX12_takenFrom_58 : decode cX12_takenFrom 58 = .ok (.aload_n 0, 1) := by decide +kernel
theorem dX12_takenFrom_59 : decode cX12_takenFrom 59 = .ok (.iload_n 1, 1) := by decide +kernel
theorem dX12_takenFrom_60 : decode cX12_takenFrom 60 = .ok (.iconst (-1), 1) := by decide +kernel
theorem dX12_takenFrom_61 : decode cX12_takenFrom 61 = .ok (.iload_n 3, 1) := by decide +kernel
theorem dX12_takenFrom_62 : decode cX12_takenFrom 62 = .ok (.invokevirtual 320, 3) := by decide +kernel
theorem dX12_takenFrom_65 : decode cX12_takenFrom 65 = .ok (.lsub, 1) := by decide +kernel
theorem dX12_takenFrom_66 : decode cX12_takenFrom 66 = .ok (.lreturn, 1) := by decide +kernel
theorem dX12_tank_0 : decode cX12_tank 0 = .ok (.iload_n 1, 1) := by decide +kernel
theorem dX12_tank_1 : decode cX12_tank 1 = .ok (.ifCond .lt 8, 3) := by decide +kernel
theorem dX12_tank_4 : decode cX12_tank 4 = .ok (.iload_n 2, 1) := by decide +kernel
theorem dX12_tank_5 : decode cX12_tank 5 = .ok (.iconst 1, 1) := by decide +kernel
theorem dX12_tank_6 : decode cX12_tank 6 = .ok (.if_icmp .ge 10, 3) := by decide +kernel
theorem dX12_tank_9 : decode cX12_tank 9 = .ok (.aload_n 0, 1) := by decide +kernel
theorem dX12_tank_10 : decode cX12_tank 10 = .ok (.bipush (-4), 2) := by decide +kernel
theorem dX12_tank_12 : decode cX12_tank 12 = .ok (.invokevirtual 150, 3) := by decide +kernel
theorem dX12_tank_15 : decode cX12_tank 15 = .ok (.ireturn, 1) := by decide +kernel
theorem dX12_tank_16 : decode cX12_tank 16 = .ok (.iload_n 1, 1) := by decide +kernel
theorem dX12_tank_17 : decode cX12_tank 17 = .ok (.bipush 9, 2) := by decide +kernel
theorem dX12_tank_19 : decode cX12_tank 19 = .ok (.if_icmp .gt 10, 3) := by decide +kernel
theorem dX12_tank_22 : decode cX12_tank 22 = .ok (.iload_n 2, 1) := by decide +kernel
theorem dX12_tank_23 : decode cX12_tank 23 = .ok (.sipush 9999, 3) := by decide +kernel
theorem dX12_tank_26 : decode cX12_tank 26 = .ok (.if_icmp .le 10, 3) := by decide +kernel
theorem dX12_tank_29 : decode cX12_tank 29 = .ok (.aload_n 0, 1) := by decide +kernel
theorem dX12_tank_30 : decode cX12_tank 30 = .ok (.bipush (-6), 2) := by decide +kernel
theorem dX12_tank_32 : decode cX12_tank 32 = .ok (.invokevirtual 150, 3) := by decide +kernel
theorem dX12_tank_35 : decode cX12_tank 35 = .ok (.ireturn, 1) := by decide +kernel
theorem dX12_tank_36 : decode cX12_tank 36 = .ok (.aload_n 0, 1) := by decide +kernel
theorem dX12_tank_37 : decode cX12_tank 37 = .ok (.getfield 324, 3) := by decide +kernel
theorem dX12_tank_40 : decode cX12_tank 40 = .ok (.istore_n 3, 1) := by decide +kernel
theorem dX12_tank_41 : decode cX12_tank 41 = .ok (.aload_n 0, 1) := by decide +kernel
theorem dX12_tank_42 : decode cX12_tank 42 = .ok (.iload_n 1, 1) := by decide +kernel
theorem dX12_tank_43 : decode cX12_tank 43 = .ok (.putfield 324, 3) := by decide +kernel
theorem dX12_tank_46 : decode cX12_tank 46 = .ok (.aload_n 0, 1) := by decide +kernel
theorem dX12_tank_47 : decode cX12_tank 47 = .ok (.iload_n 2, 1) := by decide +kernel
theorem dX12_tank_48 : decode cX12_tank 48 = .ok (.putfield 93, 3) := by decide +kernel
theorem dX12_tank_51 : decode cX12_tank 51 = .ok (.iload_n 3, 1) := by decide +kernel
theorem dX12_tank_52 : decode cX12_tank 52 = .ok (.ireturn, 1) := by decide +kernel
theorem dX12_boughtIn_0 : decode cX12_boughtIn 0 = .ok (.aload_n 0, 1) := by decide +kernel
theorem dX12_boughtIn_1 : decode cX12_boughtIn 1 = .ok (.aload_n 0, 1) := by decide +kernel
theorem dX12_boughtIn_2 : decode cX12_boughtIn 2 = .ok (.getfield 167, 3) := by decide +kernel
theorem dX12_boughtIn_5 : decode cX12_boughtIn 5 = .ok (.iload_n 1, 1) := by decide +kernel
theorem dX12_boughtIn_6 : decode cX12_boughtIn 6 = .ok (.iadd, 1) := by decide +kernel
theorem dX12_boughtIn_7 : decode cX12_boughtIn 7 = .ok (.invokevirtual 205, 3) := by decide +kernel
theorem dX12_boughtIn_10 : decode cX12_boughtIn 10 = .ok (.iload_n 2, 1) := by decide +kernel
theorem dX12_boughtIn_11 : decode cX12_boughtIn 11 = .ok (.i2l, 1) := by decide +kernel
theorem dX12_boughtIn_12 : decode cX12_boughtIn 12 = .ok (.aload_n 0, 1) := by decide +kernel
theorem dX12_boughtIn_13 : decode cX12_boughtIn 13 = .ok (.getfield 93, 3) := by decide +kernel
theorem dX12_boughtIn_16 : decode cX12_boughtIn 16 = .ok (.i2l, 1) := by decide +kernel
theorem dX12_boughtIn_17 : decode cX12_boughtIn 17 = .ok (.lmul, 1) := by decide +kernel
theorem dX12_boughtIn_18 : decode cX12_boughtIn 18 = .ok (.ladd, 1) := by decide +kernel
theorem dX12_boughtIn_19 : decode cX12_boughtIn 19 = .ok (.lreturn, 1) := by decide +kernel
theorem dX12_costIn_0 : decode cX12_costIn 0 = .ok (.aload_n 0, 1) := by decide +kernel
theorem dX12_costIn_1 : decode cX12_costIn 1 = .ok (.iload_n 1, 1) := by decide +kernel
theorem dX12_costIn_2 : decode cX12_costIn 2 = .ok (.iload_n 2, 1) := by decide +kernel
theorem dX12_costIn_3 : decode cX12_costIn 3 = .ok (.invokevirtual 327, 3) := by decide +kernel
theorem dX12_costIn_6 : decode cX12_costIn 6 = .ok (.aload_n 0, 1) := by decide +kernel
theorem dX12_costIn_7 : decode cX12_costIn 7 = .ok (.getfield 72, 3) := by decide +kernel
theorem dX12_costIn_10 : decode cX12_costIn 10 = .ok (.aload_n 0, 1) := by decide +kernel
theorem dX12_costIn_11 : decode cX12_costIn 11 = .ok (.getfield 167, 3) := by decide +kernel
theorem dX12_costIn_14 : decode cX12_costIn 14 = .ok (.iload_n 1, 1) := by decide +kernel
theorem dX12_costIn_15 : decode cX12_costIn 15 = .ok (.iadd, 1) := by decide +kernel
theorem dX12_costIn_16 : decode cX12_costIn 16 = .ok (.bipush 24, 2) := by decide +kernel
theorem dX12_costIn_18 : decode cX12_costIn 18 = .ok (.irem, 1) := by decide +kernel
theorem dX12_costIn_19 : decode cX12_costIn 19 = .ok (.iaload, 1) := by decide +kernel
theorem dX12_costIn_20 : decode cX12_costIn 20 = .ok (.i2l, 1) := by decide +kernel
theorem dX12_costIn_21 : decode cX12_costIn 21 = .ok (.lmul, 1) := by decide +kernel
theorem dX12_costIn_22 : decode cX12_costIn 22 = .ok (.ldc2_w 211, 3) := by decide +kernel
theorem dX12_costIn_25 : decode cX12_costIn 25 = .ok (.ldiv, 1) := by decide +kernel
theorem dX12_costIn_26 : decode cX12_costIn 26 = .ok (.lreturn, 1) := by decide +kernel
theorem dX12_mayBe_0 : decode cX12_mayBe 0 = .ok (.iload_n 2, 1) := by decide +kernel
theorem dX12_mayBe_1 : decode cX12_mayBe 1 = .ok (.iload_n 3, 1) := by decide +kernel
theorem dX12_mayBe_2 : decode cX12_mayBe 2 = .ok (.iadd, 1) := by decide +kernel
theorem dX12_mayBe_3 : decode cX12_mayBe 3 = .ok (.i2l, 1) := by decide +kernel
theorem dX12_mayBe_4 : decode cX12_mayBe 4 = .ok (.lconst 0, 1) := by decide +kernel
theorem dX12_mayBe_5 : decode cX12_mayBe 5 = .ok (.aload_n 0, 1) := by decide +kernel
theorem dX12_mayBe_6 : decode cX12_mayBe 6 = .ok (.getfield 324, 3) := by decide +kernel
theorem dX12_mayBe_9 : decode cX12_mayBe 9 = .ok (.i2l, 1) := by decide +kernel
theorem dX12_mayBe_10 : decode cX12_mayBe 10 = .ok (.invokestatic 157, 3) := by decide +kernel
theorem dX12_mayBe_13 : decode cX12_mayBe 13 = .ok (.ifCond .eq 18, 3) := by decide +kernel
theorem dX12_mayBe_16 : decode cX12_mayBe 16 = .ok (.aload_n 0, 1) := by decide +kernel
theorem dX12_mayBe_17 : decode cX12_mayBe 17 = .ok (.iload_n 1, 1) := by decide +kernel
theorem dX12_mayBe_18 : decode cX12_mayBe 18 = .ok (.iload_n 3, 1) := by decide +kernel
theorem dX12_mayBe_19 : decode cX12_mayBe 19 = .ok (.invokevirtual 327, 3) := by decide +kernel
theorem dX12_mayBe_22 : decode cX12_mayBe 22 = .ok (.lconst 0, 1) := by decide +kernel
theorem dX12_mayBe_23 : decode cX12_mayBe 23 = .ok (.lcmp, 1) := by decide +kernel
theorem dX12_mayBe_24 : decode cX12_mayBe 24 = .ok (.ifCond .lt 7, 3) := by decide +kernel
theorem dX12_mayBe_27 : decode cX12_mayBe 27 = .ok (.iconst 1, 1) := by decide +kernel
theorem dX12_mayBe_28 : decode cX12_mayBe 28 = .ok (.goto 4, 3) := by decide +kernel
theorem dX12_mayBe_31 : decode cX12_mayBe 31 = .ok (.iconst 0, 1) := by decide +kernel
theorem dX12_mayBe_32 : decode cX12_mayBe 32 = .ok (.ireturn, 1) := by decide +kernel
theorem dX12_plans_0 : decode cX12_plans 0 = .ok (.iconst 0, 1) := by decide +kernel
theorem dX12_plans_1 : decode cX12_plans 1 = .ok (.istore_n 1, 1) := by decide +kernel
theorem dX12_plans_2 : decode cX12_plans 2 = .ok (.iload_n 1, 1) := by decide +kernel
theorem dX12_plans_3 : decode cX12_plans 3 = .ok (.bipush 10, 2) := by decide +kernel
theorem dX12_plans_5 : decode cX12_plans 5 = .ok (.if_icmp .ge 20, 3) := by decide +kernel
theorem dX12_plans_8 : decode cX12_plans 8 = .ok (.aload_n 0, 1) := by decide +kernel
theorem dX12_plans_9 : decode cX12_plans 9 = .ok (.getfield 142, 3) := by decide +kernel
theorem dX12_plans_12 : decode cX12_plans 12 = .ok (.sipush 240, 3) := by decide +kernel
theorem dX12_plans_15 : decode cX12_plans 15 = .ok (.iload_n 1, 1) := by decide +kernel
theorem dX12_plans_16 : decode cX12_plans 16 = .ok (.iadd, 1) := by decide +kernel
theorem dX12_plans_17 : decode cX12_plans 17 = .ok (.lconst 0, 1) := by decide +kernel
theorem dX12_plans_18 : decode cX12_plans 18 = .ok (.lastore, 1) := by decide +kernel
theorem dX12_plans_19 : decode cX12_plans 19 = .ok (.iinc 1 1, 3) := by decide +kernel
theorem dX12_plans_22 : decode cX12_plans 22 = .ok (.goto (-20), 3) := by decide +kernel
theorem dX12_plans_25 : decode cX12_plans 25 = .ok (.bipush 23, 2) := by decide +kernel
theorem dX12_plans_27 : decode cX12_plans 27 = .ok (.istore_n 1, 1) := by decide +kernel
theorem dX12_plans_28 : decode cX12_plans 28 = .ok (.iload_n 1, 1) := by decide +kernel
theorem dX12_plans_29 : decode cX12_plans 29 = .ok (.ifCond .lt 114, 3) := by decide +kernel
theorem dX12_plans_32 : decode cX12_plans 32 = .ok (.iconst 0, 1) := by decide +kernel
theorem dX12_plans_33 : decode cX12_plans 33 = .ok (.istore_n 2, 1) := by decide +kernel
theorem dX12_plans_34 : decode cX12_plans 34 = .ok (.iload_n 2, 1) := by decide +kernel
theorem dX12_plans_35 : decode cX12_plans 35 = .ok (.aload_n 0, 1) := by decide +kernel
theorem dX12_plans_36 : decode cX12_plans 36 = .ok (.getfield 324, 3) := by decide +kernel
theorem dX12_plans_39 : decode cX12_plans 39 = .ok (.if_icmp .gt 98, 3) := by decide +kernel
theorem dX12_plans_42 : decode cX12_plans 42 = .ok (.ldc2_w 312, 3) := by decide +kernel
theorem dX12_plans_45 : decode cX12_plans 45 = .ok (.lstore_n 3, 1) := by decide +kernel
theorem dX12_plans_46 : decode cX12_plans 46 = .ok (.bipush (-3), 2) := by decide +kernel
theorem dX12_plans_48 : decode cX12_plans 48 = .ok (.istore 5, 2) := by decide +kernel
theorem dX12_plans_50 : decode cX12_plans 50 = .ok (.iload 5, 2) := by decide +kernel
theorem dX12_plans_52 : decode cX12_plans 52 = .ok (.iconst 3, 1) := by decide +kernel
theorem dX12_plans_53 : decode cX12_plans 53 = .ok (.if_icmp .gt 66, 3) := by decide +kernel
theorem dX12_plans_56 : decode cX12_plans 56 = .ok (.aload_n 0, 1) := by decide +kernel
theorem dX12_plans_57 : decode cX12_plans 57 = .ok (.iload_n 1, 1) := by decide +kernel
theorem dX12_plans_58 : decode cX12_plans 58 = .ok (.iload_n 2, 1) := by decide +kernel
theorem dX12_plans_59 : decode cX12_plans 59 = .ok (.iload 5, 2) := by decide +kernel
theorem dX12_plans_61 : decode cX12_plans 61 = .ok (.invokevirtual 330, 3) := by decide +kernel
theorem dX12_plans_64 : decode cX12_plans 64 = .ok (.ifCond .eq 30, 3) := by decide +kernel
theorem dX12_plans_67 : decode cX12_plans 67 = .ok (.aload_n 0, 1) := by decide +kernel
theorem dX12_plans_68 : decode cX12_plans 68 = .ok (.iload_n 1, 1) := by decide +kernel
theorem dX12_plans_69 : decode cX12_plans 69 = .ok (.iload 5, 2) := by decide +kernel
theorem dX12_plans_71 : decode cX12_plans 71 = .ok (.invokevirtual 334, 3) := by decide +kernel
theorem dX12_plans_74 : decode cX12_plans 74 = .ok (.aload_n 0, 1) := by decide +kernel
theorem dX12_plans_75 : decode cX12_plans 75 = .ok (.getfield 142, 3) := by decide +kernel
theorem dX12_plans_78 : decode cX12_plans 78 = .ok (.bipush 10, 2) := by decide +kernel
theorem dX12_plans_80 : decode cX12_plans 80 = .ok (.iload_n 1, 1) := by decide +kernel
theorem dX12_plans_81 : decode cX12_plans 81 = .ok (.iconst 1, 1) := by decide +kernel
theorem dX12_plans_82 : decode cX12_plans 82 = .ok (.iadd, 1) := by decide +kernel
theorem dX12_plans_83 : decode cX12_plans 83 = .ok (.imul, 1) := by decide +kernel
theorem dX12_plans_84 : decode cX12_plans 84 = .ok (.iload_n 2, 1) := by decide +kernel
theorem dX12_plans_85 : decode cX12_plans 85 = .ok (.iadd, 1) := by decide +kernel
theorem dX12_plans_86 : decode cX12_plans 86 = .ok (.iload 5, 2) := by decide +kernel
theorem dX12_plans_88 : decode cX12_plans 88 = .ok (.iadd, 1) := by decide +kernel
theorem dX12_plans_89 : decode cX12_plans 89 = .ok (.laload, 1) := by decide +kernel
theorem dX12_plans_90 : decode cX12_plans 90 = .ok (.ladd, 1) := by decide +kernel
theorem dX12_plans_91 : decode cX12_plans 91 = .ok (.goto 6, 3) := by decide +kernel
theorem dX12_plans_94 : decode cX12_plans 94 = .ok (.ldc2_w 312, 3) := by decide +kernel
theorem dX12_plans_97 : decode cX12_plans 97 = .ok (.lstore 6, 2) := by decide +kernel
theorem dX12_plans_99 : decode cX12_plans 99 = .ok (.lload 6, 2) := by decide +kernel
theorem dX12_plans_101 : decode cX12_plans 101 = .ok (.lload_n 3, 1) := by decide +kernel
theorem dX12_plans_102 : decode cX12_plans 102 = .ok (.lcmp, 1) := by decide +kernel
theorem dX12_plans_103 : decode cX12_plans 103 = .ok (.ifCond .ge 8, 3) := by decide +kernel
theorem dX12_plans_106 : decode cX12_plans 106 = .ok (.lload 6, 2) := by decide +kernel
theorem dX12_plans_108 : decode cX12_plans 108 = .ok (.goto 4, 3) := by decide +kernel
theorem dX12_plans_111 : decode cX12_plans 111 = .ok (.lload_n 3, 1) := by decide +kernel
theorem dX12_plans_112 : decode cX12_plans 112 = .ok (.lstore_n 3, 1) := by decide +kernel
theorem dX12_plans_113 : decode cX12_plans 113 = .ok (.iinc 5 1, 3) := by decide +kernel
theorem dX12_plans_116 : decode cX12_plans 116 = .ok (.goto (-66), 3) := by decide +kernel
theorem dX12_plans_119 : decode cX12_plans 119 = .ok (.aload_n 0, 1) := by decide +kernel
theorem dX12_plans_120 : decode cX12_plans 120 = .ok (.getfield 142, 3) := by decide +kernel
theorem dX12_plans_123 : decode cX12_plans 123 = .ok (.bipush 10, 2) := by decide +kernel
theorem dX12_plans_125 : decode cX12_plans 125 = .ok (.iload_n 1, 1) := by decide +kernel
theorem dX12_plans_126 : decode cX12_plans 126 = .ok (.imul, 1) := by decide +kernel
theorem dX12_plans_127 : decode cX12_plans 127 = .ok (.iload_n 2, 1) := by decide +kernel
theorem dX12_plans_128 : decode cX12_plans 128 = .ok (.iadd, 1) := by decide +kernel
theorem dX12_plans_129 : decode cX12_plans 129 = .ok (.lload_n 3, 1) := by decide +kernel
theorem dX12_plans_130 : decode cX12_plans 130 = .ok (.lastore, 1) := by decide +kernel
theorem dX12_plans_131 : decode cX12_plans 131 = .ok (.iinc 2 1, 3) := by decide +kernel
theorem dX12_plans_134 : decode cX12_plans 134 = .ok (.goto (-100), 3) := by decide +kernel
theorem dX12_plans_137 : decode cX12_plans 137 = .ok (.iinc 1 (-1), 3) := by decide +kernel
theorem dX12_plans_140 : decode cX12_plans 140 = .ok (.goto (-112), 3) := by decide +kernel
theorem dX12_plans_143 : decode cX12_plans 143 = .ok (.iconst 0, 1) := by decide +kernel
theorem dX12_plans_144 : decode cX12_plans 144 = .ok (.istore_n 1, 1) := by decide +kernel
theorem dX12_plans_145 : decode cX12_plans 145 = .ok (.iconst 0, 1) := by decide +kernel
theorem dX12_plans_146 : decode cX12_plans 146 = .ok (.istore_n 2, 1) := by decide +kernel
theorem dX12_plans_147 : decode cX12_plans 147 = .ok (.iload_n 2, 1) := by decide +kernel
theorem dX12_plans_148 : decode cX12_plans 148 = .ok (.bipush 24, 2) := by decide +kernel
theorem dX12_plans_150 : decode cX12_plans 150 = .ok (.if_icmp .ge 81, 3) := by decide +kernel
theorem dX12_plans_153 : decode cX12_plans 153 = .ok (.bipush (-3), 2) := by decide +kernel
theorem dX12_plans_155 : decode cX12_plans 155 = .ok (.istore_n 3, 1) := by decide +kernel
theorem dX12_plans_156 : decode cX12_plans 156 = .ok (.aload_n 0, 1) := by decide +kernel
theorem dX12_plans_157 : decode cX12_plans 157 = .ok (.iload_n 2, 1) := by decide +kernel
theorem dX12_plans_158 : decode cX12_plans 158 = .ok (.iload_n 1, 1) := by decide +kernel
theorem dX12_plans_159 : decode cX12_plans 159 = .ok (.iload_n 3, 1) := by decide +kernel
theorem dX12_plans_160 : decode cX12_plans 160 = .ok (.invokevirtual 330, 3) := by decide +kernel
theorem dX12_plans_163 : decode cX12_plans 163 = .ok (.ifCond .eq 40, 3) := by decide +kernel
theorem dX12_plans_166 : decode cX12_plans 166 = .ok (.aload_n 0, 1) := by decide +kernel
theorem dX12_plans_167 : decode cX12_plans 167 = .ok (.iload_n 2, 1) := by decide +kernel
theorem dX12_plans_168 : decode cX12_plans 168 = .ok (.iload_n 3, 1) := by decide +kernel
theorem dX12_plans_169 : decode cX12_plans 169 = .ok (.invokevirtual 334, 3) := by decide +kernel
theorem dX12_plans_172 : decode cX12_plans 172 = .ok (.aload_n 0, 1) := by decide +kernel
theorem dX12_plans_173 : decode cX12_plans 173 = .ok (.getfield 142, 3) := by decide +kernel
theorem dX12_plans_176 : decode cX12_plans 176 = .ok (.bipush 10, 2) := by decide +kernel
theorem dX12_plans_178 : decode cX12_plans 178 = .ok (.iload_n 2, 1) := by decide +kernel
theorem dX12_plans_179 : decode cX12_plans 179 = .ok (.iconst 1, 1) := by decide +kernel
theorem dX12_plans_180 : decode cX12_plans 180 = .ok (.iadd, 1) := by decide +kernel
theorem dX12_plans_181 : decode cX12_plans 181 = .ok (.imul, 1) := by decide +kernel
theorem dX12_plans_182 : decode cX12_plans 182 = .ok (.iload_n 1, 1) := by decide +kernel
theorem dX12_plans_183 : decode cX12_plans 183 = .ok (.iadd, 1) := by decide +kernel
theorem dX12_plans_184 : decode cX12_plans 184 = .ok (.iload_n 3, 1) := by decide +kernel
theorem dX12_plans_185 : decode cX12_plans 185 = .ok (.iadd, 1) := by decide +kernel
theorem dX12_plans_186 : decode cX12_plans 186 = .ok (.laload, 1) := by decide +kernel
theorem dX12_plans_187 : decode cX12_plans 187 = .ok (.ladd, 1) := by decide +kernel
theorem dX12_plans_188 : decode cX12_plans 188 = .ok (.aload_n 0, 1) := by decide +kernel
theorem dX12_plans_189 : decode cX12_plans 189 = .ok (.getfield 142, 3) := by decide +kernel
theorem dX12_plans_192 : decode cX12_plans 192 = .ok (.bipush 10, 2) := by decide +kernel
theorem dX12_plans_194 : decode cX12_plans 194 = .ok (.iload_n 2, 1) := by decide +kernel
theorem dX12_plans_195 : decode cX12_plans 195 = .ok (.imul, 1) := by decide +kernel
theorem dX12_plans_196 : decode cX12_plans 196 = .ok (.iload_n 1, 1) := by decide +kernel
theorem dX12_plans_197 : decode cX12_plans 197 = .ok (.iadd, 1) := by decide +kernel
theorem dX12_plans_198 : decode cX12_plans 198 = .ok (.laload, 1) := by decide +kernel
theorem dX12_plans_199 : decode cX12_plans 199 = .ok (.lcmp, 1) := by decide +kernel
theorem dX12_plans_200 : decode cX12_plans 200 = .ok (.ifCond .eq 9, 3) := by decide +kernel
theorem dX12_plans_203 : decode cX12_plans 203 = .ok (.iinc 3 1, 3) := by decide +kernel
theorem dX12_plans_206 : decode cX12_plans 206 = .ok (.goto (-50), 3) := by decide +kernel
theorem dX12_plans_209 : decode cX12_plans 209 = .ok (.aload_n 0, 1) := by decide +kernel
theorem dX12_plans_210 : decode cX12_plans 210 = .ok (.getfield 145, 3) := by decide +kernel
theorem dX12_plans_213 : decode cX12_plans 213 = .ok (.iload_n 2, 1) := by decide +kernel
theorem dX12_plans_214 : decode cX12_plans 214 = .ok (.aload_n 0, 1) := by decide +kernel
theorem dX12_plans_215 : decode cX12_plans 215 = .ok (.iload_n 2, 1) := by decide +kernel
theorem dX12_plans_216 : decode cX12_plans 216 = .ok (.iload_n 3, 1) := by decide +kernel
theorem dX12_plans_217 : decode cX12_plans 217 = .ok (.invokevirtual 327, 3) := by decide +kernel
theorem dX12_plans_220 : decode cX12_plans 220 = .ok (.lastore, 1) := by decide +kernel
theorem dX12_plans_221 : decode cX12_plans 221 = .ok (.iload_n 1, 1) := by decide +kernel
theorem dX12_plans_222 : decode cX12_plans 222 = .ok (.iload_n 3, 1) := by decide +kernel
theorem dX12_plans_223 : decode cX12_plans 223 = .ok (.iadd, 1) := by decide +kernel
theorem dX12_plans_224 : decode cX12_plans 224 = .ok (.istore_n 1, 1) := by decide +kernel
theorem dX12_plans_225 : decode cX12_plans 225 = .ok (.iinc 2 1, 3) := by decide +kernel
theorem dX12_plans_228 : decode cX12_plans 228 = .ok (.goto (-81), 3) := by decide +kernel
theorem dX12_plans_231 : decode cX12_plans 231 = .ok (.return_, 1) := by decide +kernel
theorem dX12_best_0 : decode cX12_best 0 = .ok (.iload_n 1, 1) := by decide +kernel
theorem dX12_best_1 : decode cX12_best 1 = .ok (.i2l, 1) := by decide +kernel
theorem dX12_best_2 : decode cX12_best 2 = .ok (.lconst 0, 1) := by decide +kernel
theorem dX12_best_3 : decode cX12_best 3 = .ok (.ldc2_w 337, 3) := by decide +kernel
theorem dX12_best_6 : decode cX12_best 6 = .ok (.invokestatic 157, 3) := by decide +kernel
theorem dX12_best_9 : decode cX12_best 9 = .ok (.ifCond .ne 10, 3) := by decide +kernel
theorem dX12_best_12 : decode cX12_best 12 = .ok (.aload_n 0, 1) := by decide +kernel
theorem dX12_best_13 : decode cX12_best 13 = .ok (.bipush (-2), 2) := by decide +kernel
theorem dX12_best_15 : decode cX12_best 15 = .ok (.invokevirtual 188, 3) := by decide +kernel
theorem dX12_best_18 : decode cX12_best 18 = .ok (.lreturn, 1) := by decide +kernel
theorem dX12_best_19 : decode cX12_best 19 = .ok (.aload_n 0, 1) := by decide +kernel
theorem dX12_best_20 : decode cX12_best 20 = .ok (.invokevirtual 339, 3) := by decide +kernel
theorem dX12_best_23 : decode cX12_best 23 = .ok (.iload_n 1, 1) := by decide +kernel
theorem dX12_best_24 : decode cX12_best 24 = .ok (.bipush 24, 2) := by decide +kernel
theorem dX12_best_26 : decode cX12_best 26 = .ok (.if_icmp .ne 12, 3) := by decide +kernel
theorem dX12_best_29 : decode cX12_best 29 = .ok (.aload_n 0, 1) := by decide +kernel
theorem dX12_best_30 : decode cX12_best 30 = .ok (.getfield 142, 3) := by decide +kernel
theorem dX12_best_33 : decode cX12_best 33 = .ok (.iconst 0, 1) := by decide +kernel
theorem dX12_best_34 : decode cX12_best 34 = .ok (.laload, 1) := by decide +kernel
theorem dX12_best_35 : decode cX12_best 35 = .ok (.goto 9, 3) := by decide +kernel
theorem dX12_best_38 : decode cX12_best 38 = .ok (.aload_n 0, 1) := by decide +kernel
theorem dX12_best_39 : decode cX12_best 39 = .ok (.getfield 145, 3) := by decide +kernel
theorem dX12_best_42 : decode cX12_best 42 = .ok (.iload_n 1, 1) := by decide +kernel
theorem dX12_best_43 : decode cX12_best 43 = .ok (.laload, 1) := by decide +kernel
theorem dX12_best_44 : decode cX12_best 44 = .ok (.lreturn, 1) := by decide +kernel
theorem dX12_reading_0 : decode cX12_reading 0 = .ok (.aload_n 0, 1) := by decide +kernel
theorem dX12_reading_1 : decode cX12_reading 1 = .ok (.iload_n 1, 1) := by decide +kernel
theorem dX12_reading_2 : decode cX12_reading 2 = .ok (.invokevirtual 177, 3) := by decide +kernel
theorem dX12_reading_5 : decode cX12_reading 5 = .ok (.ifCond .ne 9, 3) := by decide +kernel
theorem dX12_reading_8 : decode cX12_reading 8 = .ok (.aload_n 0, 1) := by decide +kernel
theorem dX12_reading_9 : decode cX12_reading 9 = .ok (.iconst (-1), 1) := by decide +kernel
theorem dX12_reading_10 : decode cX12_reading 10 = .ok (.invokevirtual 150, 3) := by decide +kernel
theorem dX12_reading_13 : decode cX12_reading 13 = .ok (.ireturn, 1) := by decide +kernel
theorem dX12_reading_14 : decode cX12_reading 14 = .ok (.iload_n 2, 1) := by decide +kernel
theorem dX12_reading_15 : decode cX12_reading 15 = .ok (.ldc 213, 2) := by decide +kernel
theorem dX12_reading_17 : decode cX12_reading 17 = .ok (.if_icmp .ge 10, 3) := by decide +kernel
theorem dX12_reading_20 : decode cX12_reading 20 = .ok (.aload_n 0, 1) := by decide +kernel
theorem dX12_reading_21 : decode cX12_reading 21 = .ok (.bipush (-4), 2) := by decide +kernel
theorem dX12_reading_23 : decode cX12_reading 23 = .ok (.invokevirtual 150, 3) := by decide +kernel
theorem dX12_reading_26 : decode cX12_reading 26 = .ok (.ireturn, 1) := by decide +kernel
theorem dX12_reading_27 : decode cX12_reading 27 = .ok (.iload_n 2, 1) := by decide +kernel
theorem dX12_reading_28 : decode cX12_reading 28 = .ok (.ldc 214, 2) := by decide +kernel
theorem dX12_reading_30 : decode cX12_reading 30 = .ok (.if_icmp .gt 12, 3) := by decide +kernel
theorem dX12_reading_33 : decode cX12_reading 33 = .ok (.aload_n 0, 1) := by decide +kernel
theorem dX12_reading_34 : decode cX12_reading 34 = .ok (.getfield 342, 3) := by decide +kernel
theorem dX12_reading_37 : decode cX12_reading 37 = .ok (.bipush 20, 2) := by decide +kernel
theorem dX12_reading_39 : decode cX12_reading 39 = .ok (.if_icmp .ne 10, 3) := by decide +kernel
theorem dX12_reading_42 : decode cX12_reading 42 = .ok (.aload_n 0, 1) := by decide +kernel
theorem dX12_reading_43 : decode cX12_reading 43 = .ok (.bipush (-6), 2) := by decide +kernel
theorem dX12_reading_45 : decode cX12_reading 45 = .ok (.invokevirtual 150, 3) := by decide +kernel
theorem dX12_reading_48 : decode cX12_reading 48 = .ok (.ireturn, 1) := by decide +kernel
theorem dX12_reading_49 : decode cX12_reading 49 = .ok (.aload_n 0, 1) := by decide +kernel
theorem dX12_reading_50 : decode cX12_reading 50 = .ok (.getfield 97, 3) := by decide +kernel
theorem dX12_reading_53 : decode cX12_reading 53 = .ok (.aload_n 0, 1) := by decide +kernel
theorem dX12_reading_54 : decode cX12_reading 54 = .ok (.getfield 342, 3) := by decide +kernel
theorem dX12_reading_57 : decode cX12_reading 57 = .ok (.iload_n 1, 1) := by decide +kernel
theorem dX12_reading_58 : decode cX12_reading 58 = .ok (.iastore, 1) := by decide +kernel
theorem dX12_reading_59 : decode cX12_reading 59 = .ok (.aload_n 0, 1) := by decide +kernel
theorem dX12_reading_60 : decode cX12_reading 60 = .ok (.getfield 100, 3) := by decide +kernel
theorem dX12_reading_63 : decode cX12_reading 63 = .ok (.aload_n 0, 1) := by decide +kernel
theorem dX12_reading_64 : decode cX12_reading 64 = .ok (.getfield 342, 3) := by decide +kernel
theorem dX12_reading_67 : decode cX12_reading 67 = .ok (.aload_n 0, 1) := by decide +kernel
theorem dX12_reading_68 : decode cX12_reading 68 = .ok (.getfield 167, 3) := by decide +kernel
theorem dX12_reading_71 : decode cX12_reading 71 = .ok (.iastore, 1) := by decide +kernel
theorem dX12_reading_72 : decode cX12_reading 72 = .ok (.aload_n 0, 1) := by decide +kernel
theorem dX12_reading_73 : decode cX12_reading 73 = .ok (.getfield 103, 3) := by decide +kernel
theorem dX12_reading_76 : decode cX12_reading 76 = .ok (.aload_n 0, 1) := by decide +kernel
theorem dX12_reading_77 : decode cX12_reading 77 = .ok (.getfield 342, 3) := by decide +kernel
theorem dX12_reading_80 : decode cX12_reading 80 = .ok (.iload_n 2, 1) := by decide +kernel
theorem dX12_reading_81 : decode cX12_reading 81 = .ok (.i2l, 1) := by decide +kernel
theorem dX12_reading_82 : decode cX12_reading 82 = .ok (.aload_n 0, 1) := by decide +kernel
theorem dX12_reading_83 : decode cX12_reading 83 = .ok (.iload_n 1, 1) := by decide +kernel
theorem dX12_reading_84 : decode cX12_reading 84 = .ok (.iconst 0, 1) := by decide +kernel
theorem dX12_reading_85 : decode cX12_reading 85 = .ok (.invokevirtual 192, 3) := by decide +kernel
theorem dX12_reading_88 : decode cX12_reading 88 = .ok (.lsub, 1) := by decide +kernel
theorem dX12_reading_89 : decode cX12_reading 89 = .ok (.lastore, 1) := by decide +kernel
theorem dX12_reading_90 : decode cX12_reading 90 = .ok (.aload_n 0, 1) := by decide +kernel
theorem dX12_reading_91 : decode cX12_reading 91 = .ok (.dup, 1) := by decide +kernel
theorem dX12_reading_92 : decode cX12_reading 92 = .ok (.getfield 342, 3) := by decide +kernel
theorem dX12_reading_95 : decode cX12_reading 95 = .ok (.iconst 1, 1) := by decide +kernel
theorem dX12_reading_96 : decode cX12_reading 96 = .ok (.iadd, 1) := by decide +kernel
theorem dX12_reading_97 : decode cX12_reading 97 = .ok (.putfield 342, 3) := by decide +kernel
theorem dX12_reading_100 : decode cX12_reading 100 = .ok (.aload_n 0, 1) := by decide +kernel
theorem dX12_reading_101 : decode cX12_reading 101 = .ok (.getfield 342, 3) := by decide +kernel
theorem dX12_reading_104 : decode cX12_reading 104 = .ok (.iconst 1, 1) := by decide +kernel
theorem dX12_reading_105 : decode cX12_reading 105 = .ok (.isub, 1) := by decide +kernel
theorem dX12_reading_106 : decode cX12_reading 106 = .ok (.ireturn, 1) := by decide +kernel
theorem dX12_wrong_0 : decode cX12_wrong 0 = .ok (.iload_n 1, 1) := by decide +kernel
theorem dX12_wrong_1 : decode cX12_wrong 1 = .ok (.i2l, 1) := by decide +kernel
theorem dX12_wrong_2 : decode cX12_wrong 2 = .ok (.lconst 0, 1) := by decide +kernel
theorem dX12_wrong_3 : decode cX12_wrong 3 = .ok (.aload_n 0, 1) := by decide +kernel
theorem dX12_wrong_4 : decode cX12_wrong 4 = .ok (.getfield 342, 3) := by decide +kernel
theorem dX12_wrong_7 : decode cX12_wrong 7 = .ok (.iconst 1, 1) := by decide +kernel
theorem dX12_wrong_8 : decode cX12_wrong 8 = .ok (.isub, 1) := by decide +kernel
theorem dX12_wrong_9 : decode cX12_wrong 9 = .ok (.i2l, 1) := by decide +kernel
theorem dX12_wrong_10 : decode cX12_wrong 10 = .ok (.invokestatic 157, 3) := by decide +kernel
theorem dX12_wrong_13 : decode cX12_wrong 13 = .ok (.ifCond .eq 12, 3) := by decide +kernel
theorem dX12_wrong_16 : decode cX12_wrong 16 = .ok (.aload_n 0, 1) := by decide +kernel
theorem dX12_wrong_17 : decode cX12_wrong 17 = .ok (.getfield 103, 3) := by decide +kernel
theorem dX12_wrong_20 : decode cX12_wrong 20 = .ok (.iload_n 1, 1) := by decide +kernel
theorem dX12_wrong_21 : decode cX12_wrong 21 = .ok (.laload, 1) := by decide +kernel
theorem dX12_wrong_22 : decode cX12_wrong 22 = .ok (.goto 8, 3) := by decide +kernel
theorem dX12_wrong_25 : decode cX12_wrong 25 = .ok (.aload_n 0, 1) := by decide +kernel
theorem dX12_wrong_26 : decode cX12_wrong 26 = .ok (.iconst (-1), 1) := by decide +kernel
theorem dX12_wrong_27 : decode cX12_wrong 27 = .ok (.invokevirtual 188, 3) := by decide +kernel
theorem dX12_wrong_30 : decode cX12_wrong 30 = .ok (.lreturn, 1) := by decide +kernel
theorem dX12_leak_0 : decode cX12_leak 0 = .ok (.aload_n 0, 1) := by decide +kernel
theorem dX12_leak_1 : decode cX12_leak 1 = .ok (.iload_n 1, 1) := by decide +kernel
theorem dX12_leak_2 : decode cX12_leak 2 = .ok (.invokevirtual 177, 3) := by decide +kernel
theorem dX12_leak_5 : decode cX12_leak 5 = .ok (.ifCond .ne 9, 3) := by decide +kernel
theorem dX12_leak_8 : decode cX12_leak 8 = .ok (.aload_n 0, 1) := by decide +kernel
theorem dX12_leak_9 : decode cX12_leak 9 = .ok (.iconst (-1), 1) := by decide +kernel
theorem dX12_leak_10 : decode cX12_leak 10 = .ok (.invokevirtual 188, 3) := by decide +kernel
theorem dX12_leak_13 : decode cX12_leak 13 = .ok (.lreturn, 1) := by decide +kernel
theorem dX12_leak_14 : decode cX12_leak 14 = .ok (.iconst (-1), 1) := by decide +kernel
theorem dX12_leak_15 : decode cX12_leak 15 = .ok (.istore_n 2, 1) := by decide +kernel
theorem dX12_leak_16 : decode cX12_leak 16 = .ok (.iconst (-1), 1) := by decide +kernel
theorem dX12_leak_17 : decode cX12_leak 17 = .ok (.istore_n 3, 1) := by decide +kernel
theorem dX12_leak_18 : decode cX12_leak 18 = .ok (.iconst 0, 1) := by decide +kernel
theorem dX12_leak_19 : decode cX12_leak 19 = .ok (.istore 4, 2) := by decide +kernel
theorem dX12_leak_21 : decode cX12_leak 21 = .ok (.iload 4, 2) := by decide +kernel
theorem dX12_leak_23 : decode cX12_leak 23 = .ok (.aload_n 0, 1) := by decide +kernel
theorem dX12_leak_24 : decode cX12_leak 24 = .ok (.getfield 342, 3) := by decide +kernel
theorem dX12_leak_27 : decode cX12_leak 27 = .ok (.if_icmp .ge 34, 3) := by decide +kernel
theorem dX12_leak_30 : decode cX12_leak 30 = .ok (.aload_n 0, 1) := by decide +kernel
theorem dX12_leak_31 : decode cX12_leak 31 = .ok (.getfield 97, 3) := by decide +kernel
theorem dX12_leak_34 : decode cX12_leak 34 = .ok (.iload 4, 2) := by decide +kernel
theorem dX12_leak_36 : decode cX12_leak 36 = .ok (.iaload, 1) := by decide +kernel
theorem dX12_leak_37 : decode cX12_leak 37 = .ok (.iload_n 1, 1) := by decide +kernel
theorem dX12_leak_38 : decode cX12_leak 38 = .ok (.if_icmp .ne 17, 3) := by decide +kernel
theorem dX12_leak_41 : decode cX12_leak 41 = .ok (.iload_n 2, 1) := by decide +kernel
theorem dX12_leak_42 : decode cX12_leak 42 = .ok (.ifCond .ge 8, 3) := by decide +kernel
theorem dX12_leak_45 : decode cX12_leak 45 = .ok (.iload 4, 2) := by decide +kernel
theorem dX12_leak_47 : decode cX12_leak 47 = .ok (.goto 4, 3) := by decide +kernel
theorem dX12_leak_50 : decode cX12_leak 50 = .ok (.iload_n 2, 1) := by decide +kernel
theorem dX12_leak_51 : decode cX12_leak 51 = .ok (.istore_n 2, 1) := by decide +kernel
theorem dX12_leak_52 : decode cX12_leak 52 = .ok (.iload 4, 2) := by decide +kernel
theorem dX12_leak_54 : decode cX12_leak 54 = .ok (.istore_n 3, 1) := by decide +kernel
theorem dX12_leak_55 : decode cX12_leak 55 = .ok (.iinc 4 1, 3) := by decide +kernel
theorem dX12_leak_58 : decode cX12_leak 58 = .ok (.goto (-37), 3) := by decide +kernel
theorem dX12_leak_61 : decode cX12_leak 61 = .ok (.iload_n 2, 1) := by decide +kernel
theorem dX12_leak_62 : decode cX12_leak 62 = .ok (.ifCond .lt 18, 3) := by decide +kernel
theorem dX12_leak_65 : decode cX12_leak 65 = .ok (.aload_n 0, 1) := by decide +kernel
theorem dX12_leak_66 : decode cX12_leak 66 = .ok (.getfield 100, 3) := by decide +kernel
theorem dX12_leak_69 : decode cX12_leak 69 = .ok (.iload_n 2, 1) := by decide +kernel
theorem dX12_leak_70 : decode cX12_leak 70 = .ok (.iaload, 1) := by decide +kernel
theorem dX12_leak_71 : decode cX12_leak 71 = .ok (.aload_n 0, 1) := by decide +kernel
theorem dX12_leak_72 : decode cX12_leak 72 = .ok (.getfield 100, 3) := by decide +kernel
theorem dX12_leak_75 : decode cX12_leak 75 = .ok (.iload_n 3, 1) := by decide +kernel
theorem dX12_leak_76 : decode cX12_leak 76 = .ok (.iaload, 1) := by decide +kernel
theorem dX12_leak_77 : decode cX12_leak 77 = .ok (.if_icmp .ne 10, 3) := by decide +kernel
theorem dX12_leak_80 : decode cX12_leak 80 = .ok (.aload_n 0, 1) := by decide +kernel
theorem dX12_leak_81 : decode cX12_leak 81 = .ok (.bipush (-3), 2) := by decide +kernel
theorem dX12_leak_83 : decode cX12_leak 83 = .ok (.invokevirtual 188, 3) := by decide +kernel
theorem dX12_leak_86 : decode cX12_leak 86 = .ok (.lreturn, 1) := by decide +kernel
theorem dX12_leak_87 : decode cX12_leak 87 = .ok (.aload_n 0, 1) := by decide +kernel
theorem dX12_leak_88 : decode cX12_leak 88 = .ok (.getfield 103, 3) := by decide +kernel
theorem dX12_leak_91 : decode cX12_leak 91 = .ok (.iload_n 2, 1) := by decide +kernel
theorem dX12_leak_92 : decode cX12_leak 92 = .ok (.laload, 1) := by decide +kernel
theorem dX12_leak_93 : decode cX12_leak 93 = .ok (.aload_n 0, 1) := by decide +kernel
theorem dX12_leak_94 : decode cX12_leak 94 = .ok (.getfield 103, 3) := by decide +kernel
theorem dX12_leak_97 : decode cX12_leak 97 = .ok (.iload_n 3, 1) := by decide +kernel
theorem dX12_leak_98 : decode cX12_leak 98 = .ok (.laload, 1) := by decide +kernel
theorem dX12_leak_99 : decode cX12_leak 99 = .ok (.lsub, 1) := by decide +kernel
theorem dX12_leak_100 : decode cX12_leak 100 = .ok (.aload_n 0, 1) := by decide +kernel
theorem dX12_leak_101 : decode cX12_leak 101 = .ok (.getfield 22, 3) := by decide +kernel
theorem dX12_leak_104 : decode cX12_leak 104 = .ok (.iload_n 1, 1) := by decide +kernel
theorem dX12_leak_105 : decode cX12_leak 105 = .ok (.iaload, 1) := by decide +kernel
theorem dX12_leak_106 : decode cX12_leak 106 = .ok (.i2l, 1) := by decide +kernel
theorem dX12_leak_107 : decode cX12_leak 107 = .ok (.lmul, 1) := by decide +kernel
theorem dX12_leak_108 : decode cX12_leak 108 = .ok (.aload_n 0, 1) := by decide +kernel
theorem dX12_leak_109 : decode cX12_leak 109 = .ok (.getfield 100, 3) := by decide +kernel
theorem dX12_leak_112 : decode cX12_leak 112 = .ok (.iload_n 3, 1) := by decide +kernel
theorem dX12_leak_113 : decode cX12_leak 113 = .ok (.iaload, 1) := by decide +kernel
theorem dX12_leak_114 : decode cX12_leak 114 = .ok (.aload_n 0, 1) := by decide +kernel
theorem dX12_leak_115 : decode cX12_leak 115 = .ok (.getfield 100, 3) := by decide +kernel
theorem dX12_leak_118 : decode cX12_leak 118 = .ok (.iload_n 2, 1) := by decide +kernel
theorem dX12_leak_119 : decode cX12_leak 119 = .ok (.iaload, 1) := by decide +kernel
theorem dX12_leak_120 : decode cX12_leak 120 = .ok (.isub, 1) := by decide +kernel
theorem dX12_leak_121 : decode cX12_leak 121 = .ok (.i2l, 1) := by decide +kernel
theorem dX12_leak_122 : decode cX12_leak 122 = .ok (.ldiv, 1) := by decide +kernel
theorem dX12_leak_123 : decode cX12_leak 123 = .ok (.lreturn, 1) := by decide +kernel
theorem dX12_count_0 : decode cX12_count 0 = .ok (.iconst 0, 1) := by decide +kernel
theorem dX12_count_1 : decode cX12_count 1 = .ok (.istore_n 2, 1) := by decide +kernel
theorem dX12_count_2 : decode cX12_count 2 = .ok (.iload_n 1, 1) := by decide +kernel
theorem dX12_count_3 : decode cX12_count 3 = .ok (.tableswitch 160 0 8 #[49, 54, 59, 94, 99, 140, 145, 150, 155], 49) := by decide +kernel
theorem dX12_count_52 : decode cX12_count 52 = .ok (.aload_n 0, 1) := by decide +kernel
theorem dX12_count_53 : decode cX12_count 53 = .ok (.getfield 167, 3) := by decide +kernel
theorem dX12_count_56 : decode cX12_count 56 = .ok (.ireturn, 1) := by decide +kernel
theorem dX12_count_57 : decode cX12_count 57 = .ok (.aload_n 0, 1) := by decide +kernel
theorem dX12_count_58 : decode cX12_count 58 = .ok (.getfield 154, 3) := by decide +kernel
theorem dX12_count_61 : decode cX12_count 61 = .ok (.ireturn, 1) := by decide +kernel
theorem dX12_count_62 : decode cX12_count 62 = .ok (.iconst 0, 1) := by decide +kernel
theorem dX12_count_63 : decode cX12_count 63 = .ok (.istore_n 3, 1) := by decide +kernel
theorem dX12_count_64 : decode cX12_count 64 = .ok (.iload_n 3, 1) := by decide +kernel
theorem dX12_count_65 : decode cX12_count 65 = .ok (.aload_n 0, 1) := by decide +kernel
theorem dX12_count_66 : decode cX12_count 66 = .ok (.getfield 154, 3) := by decide +kernel
theorem dX12_count_69 : decode cX12_count 69 = .ok (.if_icmp .ge 26, 3) := by decide +kernel
theorem dX12_count_72 : decode cX12_count 72 = .ok (.iload_n 2, 1) := by decide +kernel
theorem dX12_count_73 : decode cX12_count 73 = .ok (.aload_n 0, 1) := by decide +kernel
theorem dX12_count_74 : decode cX12_count 74 = .ok (.getfield 37, 3) := by decide +kernel
theorem dX12_count_77 : decode cX12_count 77 = .ok (.iload_n 3, 1) := by decide +kernel
theorem dX12_count_78 : decode cX12_count 78 = .ok (.baload, 1) := by decide +kernel
theorem dX12_count_79 : decode cX12_count 79 = .ok (.ifCond .eq 7, 3) := by decide +kernel
theorem dX12_count_82 : decode cX12_count 82 = .ok (.iconst 1, 1) := by decide +kernel
theorem dX12_count_83 : decode cX12_count 83 = .ok (.goto 4, 3) := by decide +kernel
theorem dX12_count_86 : decode cX12_count 86 = .ok (.iconst 0, 1) := by decide +kernel
theorem dX12_count_87 : decode cX12_count 87 = .ok (.iadd, 1) := by decide +kernel
theorem dX12_count_88 : decode cX12_count 88 = .ok (.istore_n 2, 1) := by decide +kernel
theorem dX12_count_89 : decode cX12_count 89 = .ok (.iinc 3 1, 3) := by decide +kernel
theorem dX12_count_92 : decode cX12_count 92 = .ok (.goto (-28), 3) := by decide +kernel
theorem dX12_count_95 : decode cX12_count 95 = .ok (.iload_n 2, 1) := by decide +kernel
theorem dX12_count_96 : decode cX12_count 96 = .ok (.ireturn, 1) := by decide +kernel
theorem dX12_count_97 : decode cX12_count 97 = .ok (.aload_n 0, 1) := by decide +kernel
theorem dX12_count_98 : decode cX12_count 98 = .ok (.getfield 196, 3) := by decide +kernel
theorem dX12_count_101 : decode cX12_count 101 = .ok (.ireturn, 1) := by decide +kernel
theorem dX12_count_102 : decode cX12_count 102 = .ok (.iconst 0, 1) := by decide +kernel
theorem dX12_count_103 : decode cX12_count 103 = .ok (.istore_n 3, 1) := by decide +kernel
theorem dX12_count_104 : decode cX12_count 104 = .ok (.iload_n 3, 1) := by decide +kernel
theorem dX12_count_105 : decode cX12_count 105 = .ok (.aload_n 0, 1) := by decide +kernel
theorem dX12_count_106 : decode cX12_count 106 = .ok (.getfield 196, 3) := by decide +kernel
theorem dX12_count_109 : decode cX12_count 109 = .ok (.if_icmp .ge 32, 3) := by decide +kernel
theorem dX12_count_112 : decode cX12_count 112 = .ok (.iload_n 2, 1) := by decide +kernel
theorem dX12_count_113 : decode cX12_count 113 = .ok (.aload_n 0, 1) := by decide +kernel
theorem dX12_count_114 : decode cX12_count 114 = .ok (.iload_n 3, 1) := by decide +kernel
theorem dX12_count_115 : decode cX12_count 115 = .ok (.aload_n 0, 1) := by decide +kernel
theorem dX12_count_116 : decode cX12_count 116 = .ok (.getfield 167, 3) := by decide +kernel
theorem dX12_count_119 : decode cX12_count 119 = .ok (.bipush 24, 2) := by decide +kernel
theorem dX12_count_121 : decode cX12_count 121 = .ok (.idiv, 1) := by decide +kernel
theorem dX12_count_122 : decode cX12_count 122 = .ok (.invokevirtual 200, 3) := by decide +kernel
theorem dX12_count_125 : decode cX12_count 125 = .ok (.ifCond .eq 7, 3) := by decide +kernel
theorem dX12_count_128 : decode cX12_count 128 = .ok (.iconst 1, 1) := by decide +kernel
theorem dX12_count_129 : decode cX12_count 129 = .ok (.goto 4, 3) := by decide +kernel
theorem dX12_count_132 : decode cX12_count 132 = .ok (.iconst 0, 1) := by decide +kernel
theorem dX12_count_133 : decode cX12_count 133 = .ok (.iadd, 1) := by decide +kernel
theorem dX12_count_134 : decode cX12_count 134 = .ok (.istore_n 2, 1) := by decide +kernel
theorem dX12_count_135 : decode cX12_count 135 = .ok (.iinc 3 1, 3) := by decide +kernel
theorem dX12_count_138 : decode cX12_count 138 = .ok (.goto (-34), 3) := by decide +kernel
theorem dX12_count_141 : decode cX12_count 141 = .ok (.iload_n 2, 1) := by decide +kernel
theorem dX12_count_142 : decode cX12_count 142 = .ok (.ireturn, 1) := by decide +kernel
theorem dX12_count_143 : decode cX12_count 143 = .ok (.aload_n 0, 1) := by decide +kernel
theorem dX12_count_144 : decode cX12_count 144 = .ok (.getfield 208, 3) := by decide +kernel
theorem dX12_count_147 : decode cX12_count 147 = .ok (.ireturn, 1) := by decide +kernel
theorem dX12_count_148 : decode cX12_count 148 = .ok (.aload_n 0, 1) := by decide +kernel
theorem dX12_count_149 : decode cX12_count 149 = .ok (.getfield 232, 3) := by decide +kernel
theorem dX12_count_152 : decode cX12_count 152 = .ok (.ireturn, 1) := by decide +kernel
theorem dX12_count_153 : decode cX12_count 153 = .ok (.aload_n 0, 1) := by decide +kernel
theorem dX12_count_154 : decode cX12_count 154 = .ok (.getfield 224, 3) := by decide +kernel
theorem dX12_count_157 : decode cX12_count 157 = .ok (.ireturn, 1) := by decide +kernel
theorem dX12_count_158 : decode cX12_count 158 = .ok (.aload_n 0, 1) := by decide +kernel
theorem dX12_count_159 : decode cX12_count 159 = .ok (.getfield 342, 3) := by decide +kernel
theorem dX12_count_162 : decode cX12_count 162 = .ok (.ireturn, 1) := by decide +kernel
theorem dX12_count_163 : decode cX12_count 163 = .ok (.iload_n 1, 1) := by decide +kernel
theorem dX12_count_164 : decode cX12_count 164 = .ok (.i2l, 1) := by decide +kernel
theorem dX12_count_165 : decode cX12_count 165 = .ok (.ldc2_w 345, 3) := by decide +kernel
theorem dX12_count_168 : decode cX12_count 168 = .ok (.ldc2_w 347, 3) := by decide +kernel
theorem dX12_count_171 : decode cX12_count 171 = .ok (.invokestatic 157, 3) := by decide +kernel
theorem dX12_count_174 : decode cX12_count 174 = .ok (.ifCond .eq 15, 3) := by decide +kernel
theorem dX12_count_177 : decode cX12_count 177 = .ok (.aload_n 0, 1) := by decide +kernel
theorem dX12_count_178 : decode cX12_count 178 = .ok (.getfield 7, 3) := by decide +kernel
theorem dX12_count_181 : decode cX12_count 181 = .ok (.iload_n 1, 1) := by decide +kernel
theorem dX12_count_182 : decode cX12_count 182 = .ok (.bipush 10, 2) := by decide +kernel
theorem dX12_count_184 : decode cX12_count 184 = .ok (.isub, 1) := by decide +kernel
theorem dX12_count_185 : decode cX12_count 185 = .ok (.iaload, 1) := by decide +kernel
theorem dX12_count_186 : decode cX12_count 186 = .ok (.goto 5, 3) := by decide +kernel
theorem dX12_count_189 : decode cX12_count 189 = .ok (.bipush (-9), 2) := by decide +kernel
theorem dX12_count_191 : decode cX12_count 191 = .ok (.ireturn, 1) := by decide +kernel
