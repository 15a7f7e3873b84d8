theorem dX9_laysRing_46 : decode cX9_laysRing 46 = .ok (.goto 8, 3) := by decide +kernel
theorem dX9_laysRing_49 : decode cX9_laysRing 49 = .ok (.aload_n 0, 1) := by decide +kernel
theorem dX9_laysRing_50 : decode cX9_laysRing 50 = .ok (.iload_n 1, 1) := by decide +kernel
theorem dX9_laysRing_51 : decode cX9_laysRing 51 = .ok (.invokevirtual 222, 3) := by decide +kernel
theorem dX9_laysRing_54 : decode cX9_laysRing 54 = .ok (.istore 4, 2) := by decide +kernel
theorem dX9_laysRing_56 : decode cX9_laysRing 56 = .ok (.aload_n 0, 1) := by decide +kernel
theorem dX9_laysRing_57 : decode cX9_laysRing 57 = .ok (.aload_n 0, 1) := by decide +kernel
theorem dX9_laysRing_58 : decode cX9_laysRing 58 = .ok (.iload_n 3, 1) := by decide +kernel
theorem dX9_laysRing_59 : decode cX9_laysRing 59 = .ok (.iload 4, 2) := by decide +kernel
theorem dX9_laysRing_61 : decode cX9_laysRing 61 = .ok (.invokevirtual 280, 3) := by decide +kernel
theorem dX9_laysRing_64 : decode cX9_laysRing 64 = .ok (.putfield 283, 3) := by decide +kernel
theorem dX9_laysRing_67 : decode cX9_laysRing 67 = .ok (.aload_n 0, 1) := by decide +kernel
theorem dX9_laysRing_68 : decode cX9_laysRing 68 = .ok (.aload_n 0, 1) := by decide +kernel
theorem dX9_laysRing_69 : decode cX9_laysRing 69 = .ok (.getfield 58, 3) := by decide +kernel
theorem dX9_laysRing_72 : decode cX9_laysRing 72 = .ok (.iload_n 3, 1) := by decide +kernel
theorem dX9_laysRing_73 : decode cX9_laysRing 73 = .ok (.iaload, 1) := by decide +kernel
theorem dX9_laysRing_74 : decode cX9_laysRing 74 = .ok (.aload_n 0, 1) := by decide +kernel
theorem dX9_laysRing_75 : decode cX9_laysRing 75 = .ok (.getfield 58, 3) := by decide +kernel
theorem dX9_laysRing_78 : decode cX9_laysRing 78 = .ok (.aload_n 0, 1) := by decide +kernel
theorem dX9_laysRing_79 : decode cX9_laysRing 79 = .ok (.getfield 283, 3) := by decide +kernel
theorem dX9_laysRing_82 : decode cX9_laysRing 82 = .ok (.iaload, 1) := by decide +kernel
theorem dX9_laysRing_83 : decode cX9_laysRing 83 = .ok (.isub, 1) := by decide +kernel
theorem dX9_laysRing_84 : decode cX9_laysRing 84 = .ok (.putfield 286, 3) := by decide +kernel
theorem dX9_laysRing_87 : decode cX9_laysRing 87 = .ok (.aload_n 0, 1) := by decide +kernel
theorem dX9_laysRing_88 : decode cX9_laysRing 88 = .ok (.getfield 286, 3) := by decide +kernel
theorem dX9_laysRing_91 : decode cX9_laysRing 91 = .ok (.istore 5, 2) := by decide +kernel
theorem dX9_laysRing_93 : decode cX9_laysRing 93 = .ok (.iload_n 3, 1) := by decide +kernel
theorem dX9_laysRing_94 : decode cX9_laysRing 94 = .ok (.istore 6, 2) := by decide +kernel
theorem dX9_laysRing_96 : decode cX9_laysRing 96 = .ok (.iload 6, 2) := by decide +kernel
theorem dX9_laysRing_98 : decode cX9_laysRing 98 = .ok (.aload_n 0, 1) := by decide +kernel
theorem dX9_laysRing_99 : decode cX9_laysRing 99 = .ok (.getfield 283, 3) := by decide +kernel
theorem dX9_laysRing_102 : decode cX9_laysRing 102 = .ok (.if_icmp .eq 52, 3) := by decide +kernel
theorem dX9_laysRing_105 : decode cX9_laysRing 105 = .ok (.iinc 5 (-1), 3) := by decide +kernel
theorem dX9_laysRing_108 : decode cX9_laysRing 108 = .ok (.aload_n 0, 1) := by decide +kernel
theorem dX9_laysRing_109 : decode cX9_laysRing 109 = .ok (.getfield 64, 3) := by decide +kernel
theorem dX9_laysRing_112 : decode cX9_laysRing 112 = .ok (.iload 5, 2) := by decide +kernel
theorem dX9_laysRing_114 : decode cX9_laysRing 114 = .ok (.aload_n 0, 1) := by decide +kernel
theorem dX9_laysRing_115 : decode cX9_laysRing 115 = .ok (.getfield 55, 3) := by decide +kernel
theorem dX9_laysRing_118 : decode cX9_laysRing 118 = .ok (.iload 6, 2) := by decide +kernel
theorem dX9_laysRing_120 : decode cX9_laysRing 120 = .ok (.iaload, 1) := by decide +kernel
theorem dX9_laysRing_121 : decode cX9_laysRing 121 = .ok (.iastore, 1) := by decide +kernel
theorem dX9_laysRing_122 : decode cX9_laysRing 122 = .ok (.aload_n 0, 1) := by decide +kernel
theorem dX9_laysRing_123 : decode cX9_laysRing 123 = .ok (.getfield 67, 3) := by decide +kernel
theorem dX9_laysRing_126 : decode cX9_laysRing 126 = .ok (.iload 5, 2) := by decide +kernel
theorem dX9_laysRing_128 : decode cX9_laysRing 128 = .ok (.aload_n 0, 1) := by decide +kernel
theorem dX9_laysRing_129 : decode cX9_laysRing 129 = .ok (.iload 6, 2) := by decide +kernel
theorem dX9_laysRing_131 : decode cX9_laysRing 131 = .ok (.invokevirtual 289, 3) := by decide +kernel
theorem dX9_laysRing_134 : decode cX9_laysRing 134 = .ok (.ifCond .ne 7, 3) := by decide +kernel
theorem dX9_laysRing_137 : decode cX9_laysRing 137 = .ok (.iconst 1, 1) := by decide +kernel
theorem dX9_laysRing_138 : decode cX9_laysRing 138 = .ok (.goto 4, 3) := by decide +kernel
theorem dX9_laysRing_141 : decode cX9_laysRing 141 = .ok (.iconst 0, 1) := by decide +kernel
theorem dX9_laysRing_142 : decode cX9_laysRing 142 = .ok (.bastore, 1) := by decide +kernel
theorem dX9_laysRing_143 : decode cX9_laysRing 143 = .ok (.aload_n 0, 1) := by decide +kernel
theorem dX9_laysRing_144 : decode cX9_laysRing 144 = .ok (.iload 6, 2) := by decide +kernel
theorem dX9_laysRing_146 : decode cX9_laysRing 146 = .ok (.invokevirtual 248, 3) := by decide +kernel
theorem dX9_laysRing_149 : decode cX9_laysRing 149 = .ok (.istore 6, 2) := by decide +kernel
theorem dX9_laysRing_151 : decode cX9_laysRing 151 = .ok (.goto (-55), 3) := by decide +kernel
theorem dX9_laysRing_154 : decode cX9_laysRing 154 = .ok (.aload_n 0, 1) := by decide +kernel
theorem dX9_laysRing_155 : decode cX9_laysRing 155 = .ok (.getfield 64, 3) := by decide +kernel
theorem dX9_laysRing_158 : decode cX9_laysRing 158 = .ok (.aload_n 0, 1) := by decide +kernel
theorem dX9_laysRing_159 : decode cX9_laysRing 159 = .ok (.getfield 286, 3) := by decide +kernel
theorem dX9_laysRing_162 : decode cX9_laysRing 162 = .ok (.iload_n 1, 1) := by decide +kernel
theorem dX9_laysRing_163 : decode cX9_laysRing 163 = .ok (.iastore, 1) := by decide +kernel
theorem dX9_laysRing_164 : decode cX9_laysRing 164 = .ok (.aload_n 0, 1) := by decide +kernel
theorem dX9_laysRing_165 : decode cX9_laysRing 165 = .ok (.getfield 67, 3) := by decide +kernel
theorem dX9_laysRing_168 : decode cX9_laysRing 168 = .ok (.aload_n 0, 1) := by decide +kernel
theorem dX9_laysRing_169 : decode cX9_laysRing 169 = .ok (.getfield 286, 3) := by decide +kernel
theorem dX9_laysRing_172 : decode cX9_laysRing 172 = .ok (.iload_n 2, 1) := by decide +kernel
theorem dX9_laysRing_173 : decode cX9_laysRing 173 = .ok (.bastore, 1) := by decide +kernel
theorem dX9_laysRing_174 : decode cX9_laysRing 174 = .ok (.aload_n 0, 1) := by decide +kernel
theorem dX9_laysRing_175 : decode cX9_laysRing 175 = .ok (.dup, 1) := by decide +kernel
theorem dX9_laysRing_176 : decode cX9_laysRing 176 = .ok (.getfield 286, 3) := by decide +kernel
theorem dX9_laysRing_179 : decode cX9_laysRing 179 = .ok (.iconst 1, 1) := by decide +kernel
theorem dX9_laysRing_180 : decode cX9_laysRing 180 = .ok (.iadd, 1) := by decide +kernel
theorem dX9_laysRing_181 : decode cX9_laysRing 181 = .ok (.putfield 286, 3) := by decide +kernel
theorem dX9_laysRing_184 : decode cX9_laysRing 184 = .ok (.iload 4, 2) := by decide +kernel
theorem dX9_laysRing_186 : decode cX9_laysRing 186 = .ok (.istore 6, 2) := by decide +kernel
theorem dX9_laysRing_188 : decode cX9_laysRing 188 = .ok (.iload 6, 2) := by decide +kernel
theorem dX9_laysRing_190 : decode cX9_laysRing 190 = .ok (.aload_n 0, 1) := by decide +kernel
theorem dX9_laysRing_191 : decode cX9_laysRing 191 = .ok (.getfield 283, 3) := by decide +kernel
theorem dX9_laysRing_194 : decode cX9_laysRing 194 = .ok (.if_icmp .eq 55, 3) := by decide +kernel
theorem dX9_laysRing_197 : decode cX9_laysRing 197 = .ok (.aload_n 0, 1) := by decide +kernel
theorem dX9_laysRing_198 : decode cX9_laysRing 198 = .ok (.getfield 64, 3) := by decide +kernel
theorem dX9_laysRing_201 : decode cX9_laysRing 201 = .ok (.aload_n 0, 1) := by decide +kernel
theorem dX9_laysRing_202 : decode cX9_laysRing 202 = .ok (.getfield 286, 3) := by decide +kernel
theorem dX9_laysRing_205 : decode cX9_laysRing 205 = .ok (.aload_n 0, 1) := by decide +kernel
theorem dX9_laysRing_206 : decode cX9_laysRing 206 = .ok (.getfield 55, 3) := by decide +kernel
theorem dX9_laysRing_209 : decode cX9_laysRing 209 = .ok (.iload 6, 2) := by decide +kernel
theorem dX9_laysRing_211 : decode cX9_laysRing 211 = .ok (.iaload, 1) := by decide +kernel
theorem dX9_laysRing_212 : decode cX9_laysRing 212 = .ok (.iastore, 1) := by decide +kernel
theorem dX9_laysRing_213 : decode cX9_laysRing 213 = .ok (.aload_n 0, 1) := by decide +kernel
theorem dX9_laysRing_214 : decode cX9_laysRing 214 = .ok (.getfield 67, 3) := by decide +kernel
theorem dX9_laysRing_217 : decode cX9_laysRing 217 = .ok (.aload_n 0, 1) := by decide +kernel
theorem dX9_laysRing_218 : decode cX9_laysRing 218 = .ok (.getfield 286, 3) := by decide +kernel
theorem dX9_laysRing_221 : decode cX9_laysRing 221 = .ok (.aload_n 0, 1) := by decide +kernel
theorem dX9_laysRing_222 : decode cX9_laysRing 222 = .ok (.iload 6, 2) := by decide +kernel
theorem dX9_laysRing_224 : decode cX9_laysRing 224 = .ok (.invokevirtual 289, 3) := by decide +kernel
theorem dX9_laysRing_227 : decode cX9_laysRing 227 = .ok (.bastore, 1) := by decide +kernel
theorem dX9_laysRing_228 : decode cX9_laysRing 228 = .ok (.aload_n 0, 1) := by decide +kernel
theorem dX9_laysRing_229 : decode cX9_laysRing 229 = .ok (.dup, 1) := by decide +kernel
theorem dX9_laysRing_230 : decode cX9_laysRing 230 = .ok (.getfield 286, 3) := by decide +kernel
theorem dX9_laysRing_233 : decode cX9_laysRing 233 = .ok (.iconst 1, 1) := by decide +kernel
theorem dX9_laysRing_234 : decode cX9_laysRing 234 = .ok (.iadd, 1) := by decide +kernel
theorem dX9_laysRing_235 : decode cX9_laysRing 235 = .ok (.putfield 286, 3) := by decide +kernel
theorem dX9_laysRing_238 : decode cX9_laysRing 238 = .ok (.aload_n 0, 1) := by decide +kernel
theorem dX9_laysRing_239 : decode cX9_laysRing 239 = .ok (.iload 6, 2) := by decide +kernel
theorem dX9_laysRing_241 : decode cX9_laysRing 241 = .ok (.invokevirtual 248, 3) := by decide +kernel
theorem dX9_laysRing_244 : decode cX9_laysRing 244 = .ok (.istore 6, 2) := by decide +kernel
theorem dX9_laysRing_246 : decode cX9_laysRing 246 = .ok (.goto (-58), 3) := by decide +kernel
theorem dX9_laysRing_249 : decode cX9_laysRing 249 = .ok (.aload_n 0, 1) := by decide +kernel
theorem dX9_laysRing_250 : decode cX9_laysRing 250 = .ok (.ldc 221, 2) := by decide +kernel
theorem dX9_laysRing_252 : decode cX9_laysRing 252 = .ok (.putfield 292, 3) := by decide +kernel
theorem dX9_laysRing_255 : decode cX9_laysRing 255 = .ok (.aload_n 0, 1) := by decide +kernel
theorem dX9_laysRing_256 : decode cX9_laysRing 256 = .ok (.iconst (-1), 1) := by decide +kernel
theorem dX9_laysRing_257 : decode cX9_laysRing 257 = .ok (.putfield 295, 3) := by decide +kernel
theorem dX9_laysRing_260 : decode cX9_laysRing 260 = .ok (.iconst 0, 1) := by decide +kernel
theorem dX9_laysRing_261 : decode cX9_laysRing 261 = .ok (.istore 6, 2) := by decide +kernel
theorem dX9_laysRing_263 : decode cX9_laysRing 263 = .ok (.iload 6, 2) := by decide +kernel
theorem dX9_laysRing_265 : decode cX9_laysRing 265 = .ok (.aload_n 0, 1) := by decide +kernel
theorem dX9_laysRing_266 : decode cX9_laysRing 266 = .ok (.getfield 286, 3) := by decide +kernel
theorem dX9_laysRing_269 : decode cX9_laysRing 269 = .ok (.if_icmp .ge 42, 3) := by decide +kernel
theorem dX9_laysRing_272 : decode cX9_laysRing 272 = .ok (.aload_n 0, 1) := by decide +kernel
theorem dX9_laysRing_273 : decode cX9_laysRing 273 = .ok (.iload 6, 2) := by decide +kernel
theorem dX9_laysRing_275 : decode cX9_laysRing 275 = .ok (.iload_n 1, 1) := by decide +kernel
theorem dX9_laysRing_276 : decode cX9_laysRing 276 = .ok (.invokevirtual 298, 3) := by decide +kernel
theorem dX9_laysRing_279 : decode cX9_laysRing 279 = .ok (.istore 7, 2) := by decide +kernel
theorem dX9_laysRing_281 : decode cX9_laysRing 281 = .ok (.iload 7, 2) := by decide +kernel
theorem dX9_laysRing_283 : decode cX9_laysRing 283 = .ok (.aload_n 0, 1) := by decide +kernel
theorem dX9_laysRing_284 : decode cX9_laysRing 284 = .ok (.getfield 292, 3) := by decide +kernel
theorem dX9_laysRing_287 : decode cX9_laysRing 287 = .ok (.if_icmp .le 6, 3) := by decide +kernel
theorem dX9_laysRing_290 : decode cX9_laysRing 290 = .ok (.goto 15, 3) := by decide +kernel
theorem dX9_laysRing_293 : decode cX9_laysRing 293 = .ok (.aload_n 0, 1) := by decide +kernel
theorem dX9_laysRing_294 : decode cX9_laysRing 294 = .ok (.iload 7, 2) := by decide +kernel
theorem dX9_laysRing_296 : decode cX9_laysRing 296 = .ok (.putfield 292, 3) := by decide +kernel
theorem dX9_laysRing_299 : decode cX9_laysRing 299 = .ok (.aload_n 0, 1) := by decide +kernel
theorem dX9_laysRing_300 : decode cX9_laysRing 300 = .ok (.iload 6, 2) := by decide +kernel
theorem dX9_laysRing_302 : decode cX9_laysRing 302 = .ok (.putfield 295, 3) := by decide +kernel
theorem dX9_laysRing_305 : decode cX9_laysRing 305 = .ok (.iinc 6 1, 3) := by decide +kernel
theorem dX9_laysRing_308 : decode cX9_laysRing 308 = .ok (.goto (-45), 3) := by decide +kernel
theorem dX9_laysRing_311 : decode cX9_laysRing 311 = .ok (.return_, 1) := by decide +kernel
theorem dX9_good_0 : decode cX9_good 0 = .ok (.aload_n 0, 1) := by decide +kernel
theorem dX9_good_1 : decode cX9_good 1 = .ok (.iconst 0, 1) := by decide +kernel
theorem dX9_good_2 : decode cX9_good 2 = .ok (.putfield 82, 3) := by decide +kernel
theorem dX9_good_5 : decode cX9_good 5 = .ok (.aload_n 0, 1) := by decide +kernel
theorem dX9_good_6 : decode cX9_good 6 = .ok (.invokevirtual 242, 3) := by decide +kernel
theorem dX9_good_9 : decode cX9_good 9 = .ok (.aload_n 0, 1) := by decide +kernel
theorem dX9_good_10 : decode cX9_good 10 = .ok (.invokevirtual 245, 3) := by decide +kernel
theorem dX9_good_13 : decode cX9_good 13 = .ok (.ireturn, 1) := by decide +kernel
theorem dX9_enters_0 : decode cX9_enters 0 = .ok (.aload_n 0, 1) := by decide +kernel
theorem dX9_enters_1 : decode cX9_enters 1 = .ok (.iconst 0, 1) := by decide +kernel
theorem dX9_enters_2 : decode cX9_enters 2 = .ok (.putfield 82, 3) := by decide +kernel
theorem dX9_enters_5 : decode cX9_enters 5 = .ok (.aload_n 0, 1) := by decide +kernel
theorem dX9_enters_6 : decode cX9_enters 6 = .ok (.invokevirtual 242, 3) := by decide +kernel
theorem dX9_enters_9 : decode cX9_enters 9 = .ok (.aload_n 0, 1) := by decide +kernel
theorem dX9_enters_10 : decode cX9_enters 10 = .ok (.invokevirtual 301, 3) := by decide +kernel
theorem dX9_enters_13 : decode cX9_enters 13 = .ok (.istore_n 1, 1) := by decide +kernel
theorem dX9_enters_14 : decode cX9_enters 14 = .ok (.iload_n 1, 1) := by decide +kernel
theorem dX9_enters_15 : decode cX9_enters 15 = .ok (.iconst (-1), 1) := by decide +kernel
theorem dX9_enters_16 : decode cX9_enters 16 = .ok (.if_icmp .ne 8, 3) := by decide +kernel
theorem dX9_enters_19 : decode cX9_enters 19 = .ok (.bipush (-2), 2) := by decide +kernel
theorem dX9_enters_21 : decode cX9_enters 21 = .ok (.goto 4, 3) := by decide +kernel
theorem dX9_enters_24 : decode cX9_enters 24 = .ok (.iload_n 1, 1) := by decide +kernel
theorem dX9_enters_25 : decode cX9_enters 25 = .ok (.ireturn, 1) := by decide +kernel
theorem dX9_ring_0 : decode cX9_ring 0 = .ok (.aload_n 0, 1) := by decide +kernel
theorem dX9_ring_1 : decode cX9_ring 1 = .ok (.iconst 0, 1) := by decide +kernel
theorem dX9_ring_2 : decode cX9_ring 2 = .ok (.putfield 82, 3) := by decide +kernel
theorem dX9_ring_5 : decode cX9_ring 5 = .ok (.aload_n 0, 1) := by decide +kernel
theorem dX9_ring_6 : decode cX9_ring 6 = .ok (.iload_n 1, 1) := by decide +kernel
theorem dX9_ring_7 : decode cX9_ring 7 = .ok (.invokevirtual 265, 3) := by decide +kernel
theorem dX9_ring_10 : decode cX9_ring 10 = .ok (.ifCond .eq 8, 3) := by decide +kernel
theorem dX9_ring_13 : decode cX9_ring 13 = .ok (.iload_n 2, 1) := by decide +kernel
theorem dX9_ring_14 : decode cX9_ring 14 = .ok (.iconst (-1), 1) := by decide +kernel
theorem dX9_ring_15 : decode cX9_ring 15 = .ok (.if_icmp .ge 5, 3) := by decide +kernel
theorem dX9_ring_18 : decode cX9_ring 18 = .ok (.iconst (-1), 1) := by decide +kernel
theorem dX9_ring_19 : decode cX9_ring 19 = .ok (.ireturn, 1) := by decide +kernel
theorem dX9_ring_20 : decode cX9_ring 20 = .ok (.aload_n 0, 1) := by decide +kernel
theorem dX9_ring_21 : decode cX9_ring 21 = .ok (.getfield 39, 3) := by decide +kernel
theorem dX9_ring_24 : decode cX9_ring 24 = .ok (.bipush 74, 2) := by decide +kernel
theorem dX9_ring_26 : decode cX9_ring 26 = .ok (.iload_n 1, 1) := by decide +kernel
theorem dX9_ring_27 : decode cX9_ring 27 = .ok (.iadd, 1) := by decide +kernel
theorem dX9_ring_28 : decode cX9_ring 28 = .ok (.iaload, 1) := by decide +kernel
theorem dX9_ring_29 : decode cX9_ring 29 = .ok (.ifCond .ne 6, 3) := by decide +kernel
theorem dX9_ring_32 : decode cX9_ring 32 = .ok (.bipush (-2), 2) := by decide +kernel
theorem dX9_ring_34 : decode cX9_ring 34 = .ok (.ireturn, 1) := by decide +kernel
theorem dX9_ring_35 : decode cX9_ring 35 = .ok (.aload_n 0, 1) := by decide +kernel
theorem dX9_ring_36 : decode cX9_ring 36 = .ok (.invokevirtual 242, 3) := by decide +kernel
theorem dX9_ring_39 : decode cX9_ring 39 = .ok (.aload_n 0, 1) := by decide +kernel
theorem dX9_ring_40 : decode cX9_ring 40 = .ok (.iload_n 1, 1) := by decide +kernel
theorem dX9_ring_41 : decode cX9_ring 41 = .ok (.invokevirtual 304, 3) := by decide +kernel
theorem dX9_ring_44 : decode cX9_ring 44 = .ok (.iload_n 2, 1) := by decide +kernel
theorem dX9_ring_45 : decode cX9_ring 45 = .ok (.iconst (-1), 1) := by decide +kernel
theorem dX9_ring_46 : decode cX9_ring 46 = .ok (.if_icmp .ne 10, 3) := by decide +kernel
theorem dX9_ring_49 : decode cX9_ring 49 = .ok (.aload_n 0, 1) := by decide +kernel
theorem dX9_ring_50 : decode cX9_ring 50 = .ok (.getfield 286, 3) := by decide +kernel
theorem dX9_ring_53 : decode cX9_ring 53 = .ok (.goto 22, 3) := by decide +kernel
theorem dX9_ring_56 : decode cX9_ring 56 = .ok (.iload_n 2, 1) := by decide +kernel
theorem dX9_ring_57 : decode cX9_ring 57 = .ok (.aload_n 0, 1) := by decide +kernel
theorem dX9_ring_58 : decode cX9_ring 58 = .ok (.getfield 286, 3) := by decide +kernel
theorem dX9_ring_61 : decode cX9_ring 61 = .ok (.if_icmp .ge 12, 3) := by decide +kernel
theorem dX9_ring_64 : decode cX9_ring 64 = .ok (.aload_n 0, 1) := by decide +kernel
theorem dX9_ring_65 : decode cX9_ring 65 = .ok (.getfield 64, 3) := by decide +kernel
theorem dX9_ring_68 : decode cX9_ring 68 = .ok (.iload_n 2, 1) := by decide +kernel
theorem dX9_ring_69 : decode cX9_ring 69 = .ok (.iaload, 1) := by decide +kernel
theorem dX9_ring_70 : decode cX9_ring 70 = .ok (.goto 5, 3) := by decide +kernel
theorem dX9_ring_73 : decode cX9_ring 73 = .ok (.bipush (-2), 2) := by decide +kernel
theorem dX9_ring_75 : decode cX9_ring 75 = .ok (.ireturn, 1) := by decide +kernel
theorem dX9_closes_0 : decode cX9_closes 0 = .ok (.aload_n 0, 1) := by decide +kernel
theorem dX9_closes_1 : decode cX9_closes 1 = .ok (.iconst 0, 1) := by decide +kernel
theorem dX9_closes_2 : decode cX9_closes 2 = .ok (.putfield 82, 3) := by decide +kernel
theorem dX9_closes_5 : decode cX9_closes 5 = .ok (.aload_n 0, 1) := by decide +kernel
theorem dX9_closes_6 : decode cX9_closes 6 = .ok (.iload_n 1, 1) := by decide +kernel
theorem dX9_closes_7 : decode cX9_closes 7 = .ok (.invokevirtual 265, 3) := by decide +kernel
theorem dX9_closes_10 : decode cX9_closes 10 = .ok (.ifCond .eq 15, 3) := by decide +kernel
theorem dX9_closes_13 : decode cX9_closes 13 = .ok (.iload_n 2, 1) := by decide +kernel
theorem dX9_closes_14 : decode cX9_closes 14 = .ok (.i2l, 1) := by decide +kernel
theorem dX9_closes_15 : decode cX9_closes 15 = .ok (.lconst 0, 1) := by decide +kernel
theorem dX9_closes_16 : decode cX9_closes 16 = .ok (.ldc2_w 307, 3) := by decide +kernel
theorem dX9_closes_19 : decode cX9_closes 19 = .ok (.invokestatic 120, 3) := by decide +kernel
theorem dX9_closes_22 : decode cX9_closes 22 = .ok (.ifCond .ne 5, 3) := by decide +kernel
theorem dX9_closes_25 : decode cX9_closes 25 = .ok (.iconst (-1), 1) := by decide +kernel
theorem dX9_closes_26 : decode cX9_closes 26 = .ok (.ireturn, 1) := by decide +kernel
theorem dX9_closes_27 : decode cX9_closes 27 = .ok (.aload_n 0, 1) := by decide +kernel
theorem dX9_closes_28 : decode cX9_closes 28 = .ok (.getfield 39, 3) := by decide +kernel
theorem dX9_closes_31 : decode cX9_closes 31 = .ok (.bipush 74, 2) := by decide +kernel
theorem dX9_closes_33 : decode cX9_closes 33 = .ok (.iload_n 1, 1) := by decide +kernel
theorem dX9_closes_34 : decode cX9_closes 34 = .ok (.iadd, 1) := by decide +kernel
theorem dX9_closes_35 : decode cX9_closes 35 = .ok (.iaload, 1) := by decide +kernel
theorem dX9_closes_36 : decode cX9_closes 36 = .ok (.ifCond .ne 6, 3) := by decide +kernel
theorem dX9_closes_39 : decode cX9_closes 39 = .ok (.bipush (-2), 2) := by decide +kernel
theorem dX9_closes_41 : decode cX9_closes 41 = .ok (.ireturn, 1) := by decide +kernel
theorem dX9_closes_42 : decode cX9_closes 42 = .ok (.aload_n 0, 1) := by decide +kernel
theorem dX9_closes_43 : decode cX9_closes 43 = .ok (.invokevirtual 242, 3) := by decide +kernel
theorem dX9_closes_46 : decode cX9_closes 46 = .ok (.aload_n 0, 1) := by decide +kernel
theorem dX9_closes_47 : decode cX9_closes 47 = .ok (.iload_n 1, 1) := by decide +kernel
theorem dX9_closes_48 : decode cX9_closes 48 = .ok (.invokevirtual 304, 3) := by decide +kernel
theorem dX9_closes_51 : decode cX9_closes 51 = .ok (.iload_n 2, 1) := by decide +kernel
theorem dX9_closes_52 : decode cX9_closes 52 = .ok (.ifCond .ne 10, 3) := by decide +kernel
theorem dX9_closes_55 : decode cX9_closes 55 = .ok (.aload_n 0, 1) := by decide +kernel
theorem dX9_closes_56 : decode cX9_closes 56 = .ok (.getfield 292, 3) := by decide +kernel
theorem dX9_closes_59 : decode cX9_closes 59 = .ok (.goto 38, 3) := by decide +kernel
theorem dX9_closes_62 : decode cX9_closes 62 = .ok (.iload_n 2, 1) := by decide +kernel
theorem dX9_closes_63 : decode cX9_closes 63 = .ok (.iconst 1, 1) := by decide +kernel
theorem dX9_closes_64 : decode cX9_closes 64 = .ok (.if_icmp .ne 15, 3) := by decide +kernel
theorem dX9_closes_67 : decode cX9_closes 67 = .ok (.aload_n 0, 1) := by decide +kernel
theorem dX9_closes_68 : decode cX9_closes 68 = .ok (.getfield 64, 3) := by decide +kernel
theorem dX9_closes_71 : decode cX9_closes 71 = .ok (.aload_n 0, 1) := by decide +kernel
theorem dX9_closes_72 : decode cX9_closes 72 = .ok (.getfield 295, 3) := by decide +kernel
theorem dX9_closes_75 : decode cX9_closes 75 = .ok (.iaload, 1) := by decide +kernel
theorem dX9_closes_76 : decode cX9_closes 76 = .ok (.goto 21, 3) := by decide +kernel
theorem dX9_closes_79 : decode cX9_closes 79 = .ok (.aload_n 0, 1) := by decide +kernel
theorem dX9_closes_80 : decode cX9_closes 80 = .ok (.getfield 283, 3) := by decide +kernel
theorem dX9_closes_83 : decode cX9_closes 83 = .ok (.bipush 8, 2) := by decide +kernel
theorem dX9_closes_85 : decode cX9_closes 85 = .ok (.if_icmp .ne 8, 3) := by decide +kernel
theorem dX9_closes_88 : decode cX9_closes 88 = .ok (.bipush 100, 2) := by decide +kernel
theorem dX9_closes_90 : decode cX9_closes 90 = .ok (.goto 7, 3) := by decide +kernel
theorem dX9_closes_93 : decode cX9_closes 93 = .ok (.aload_n 0, 1) := by decide +kernel
theorem dX9_closes_94 : decode cX9_closes 94 = .ok (.getfield 283, 3) := by decide +kernel
theorem dX9_closes_97 : decode cX9_closes 97 = .ok (.ireturn, 1) := by decide +kernel
theorem dX9_strong_0 : decode cX9_strong 0 = .ok (.aload_n 0, 1) := by decide +kernel
theorem dX9_strong_1 : decode cX9_strong 1 = .ok (.iconst 0, 1) := by decide +kernel
theorem dX9_strong_2 : decode cX9_strong 2 = .ok (.putfield 82, 3) := by decide +kernel
theorem dX9_strong_5 : decode cX9_strong 5 = .ok (.aload_n 0, 1) := by decide +kernel
theorem dX9_strong_6 : decode cX9_strong 6 = .ok (.invokevirtual 242, 3) := by decide +kernel
theorem dX9_strong_9 : decode cX9_strong 9 = .ok (.iconst 0, 1) := by decide +kernel
theorem dX9_strong_10 : decode cX9_strong 10 = .ok (.istore_n 1, 1) := by decide +kernel
theorem dX9_strong_11 : decode cX9_strong 11 = .ok (.iload_n 1, 1) := by decide +kernel
theorem dX9_strong_12 : decode cX9_strong 12 = .ok (.aload_n 0, 1) := by decide +kernel
theorem dX9_strong_13 : decode cX9_strong 13 = .ok (.getfield 13, 3) := by decide +kernel
theorem dX9_strong_16 : decode cX9_strong 16 = .ok (.iconst 0, 1) := by decide +kernel
theorem dX9_strong_17 : decode cX9_strong 17 = .ok (.iaload, 1) := by decide +kernel
theorem dX9_strong_18 : decode cX9_strong 18 = .ok (.if_icmp .ge 79, 3) := by decide +kernel
theorem dX9_strong_21 : decode cX9_strong 21 = .ok (.aload_n 0, 1) := by decide +kernel
theorem dX9_strong_22 : decode cX9_strong 22 = .ok (.getfield 55, 3) := by decide +kernel
theorem dX9_strong_25 : decode cX9_strong 25 = .ok (.iload_n 1, 1) := by decide +kernel
theorem dX9_strong_26 : decode cX9_strong 26 = .ok (.iaload, 1) := by decide +kernel
theorem dX9_strong_27 : decode cX9_strong 27 = .ok (.istore_n 2, 1) := by decide +kernel
theorem dX9_strong_28 : decode cX9_strong 28 = .ok (.aload_n 0, 1) := by decide +kernel
theorem dX9_strong_29 : decode cX9_strong 29 = .ok (.getfield 39, 3) := by decide +kernel
theorem dX9_strong_32 : decode cX9_strong 32 = .ok (.bipush 50, 2) := by decide +kernel
theorem dX9_strong_34 : decode cX9_strong 34 = .ok (.iload_n 2, 1) := by decide +kernel
theorem dX9_strong_35 : decode cX9_strong 35 = .ok (.iadd, 1) := by decide +kernel
theorem dX9_strong_36 : decode cX9_strong 36 = .ok (.iaload, 1) := by decide +kernel
theorem dX9_strong_37 : decode cX9_strong 37 = .ok (.ifCond .ne 13, 3) := by decide +kernel
theorem dX9_strong_40 : decode cX9_strong 40 = .ok (.aload_n 0, 1) := by decide +kernel
theorem dX9_strong_41 : decode cX9_strong 41 = .ok (.iload_n 1, 1) := by decide +kernel
theorem dX9_strong_42 : decode cX9_strong 42 = .ok (.invokevirtual 289, 3) := by decide +kernel
theorem dX9_strong_45 : decode cX9_strong 45 = .ok (.ifCond .ne 5, 3) := by decide +kernel
theorem dX9_strong_48 : decode cX9_strong 48 = .ok (.iconst 0, 1) := by decide +kernel
theorem dX9_strong_49 : decode cX9_strong 49 = .ok (.ireturn, 1) := by decide +kernel
theorem dX9_strong_50 : decode cX9_strong 50 = .ok (.iload_n 2, 1) := by decide +kernel
theorem dX9_strong_51 : decode cX9_strong 51 = .ok (.aload_n 0, 1) := by decide +kernel
theorem dX9_strong_52 : decode cX9_strong 52 = .ok (.getfield 17, 3) := by decide +kernel
theorem dX9_strong_55 : decode cX9_strong 55 = .ok (.iconst 0, 1) := by decide +kernel
theorem dX9_strong_56 : decode cX9_strong 56 = .ok (.iaload, 1) := by decide +kernel
theorem dX9_strong_57 : decode cX9_strong 57 = .ok (.if_icmp .ge 34, 3) := by decide +kernel
theorem dX9_strong_60 : decode cX9_strong 60 = .ok (.aload_n 0, 1) := by decide +kernel
theorem dX9_strong_61 : decode cX9_strong 61 = .ok (.getfield 39, 3) := by decide +kernel
theorem dX9_strong_64 : decode cX9_strong 64 = .ok (.bipush 50, 2) := by decide +kernel
theorem dX9_strong_66 : decode cX9_strong 66 = .ok (.iload_n 2, 1) := by decide +kernel
theorem dX9_strong_67 : decode cX9_strong 67 = .ok (.iadd, 1) := by decide +kernel
theorem dX9_strong_68 : decode cX9_strong 68 = .ok (.iaload, 1) := by decide +kernel
theorem dX9_strong_69 : decode cX9_strong 69 = .ok (.aload_n 0, 1) := by decide +kernel
theorem dX9_strong_70 : decode cX9_strong 70 = .ok (.getfield 39, 3) := by decide +kernel
theorem dX9_strong_73 : decode cX9_strong 73 = .ok (.bipush 24, 2) := by decide +kernel
theorem dX9_strong_75 : decode cX9_strong 75 = .ok (.iload_n 2, 1) := by decide +kernel
theorem dX9_strong_76 : decode cX9_strong 76 = .ok (.iadd, 1) := by decide +kernel
theorem dX9_strong_77 : decode cX9_strong 77 = .ok (.iaload, 1) := by decide +kernel
theorem dX9_strong_78 : decode cX9_strong 78 = .ok (.if_icmp .ne 13, 3) := by decide +kernel
theorem dX9_strong_81 : decode cX9_strong 81 = .ok (.aload_n 0, 1) := by decide +kernel
theorem dX9_strong_82 : decode cX9_strong 82 = .ok (.iload_n 1, 1) := by decide +kernel
theorem dX9_strong_83 : decode cX9_strong 83 = .ok (.invokevirtual 289, 3) := by decide +kernel
theorem dX9_strong_86 : decode cX9_strong 86 = .ok (.ifCond .eq 5, 3) := by decide +kernel
theorem dX9_strong_89 : decode cX9_strong 89 = .ok (.iconst 0, 1) := by decide +kernel
theorem dX9_strong_90 : decode cX9_strong 90 = .ok (.ireturn, 1) := by decide +kernel
theorem dX9_strong_91 : decode cX9_strong 91 = .ok (.iinc 1 1, 3) := by decide +kernel
theorem dX9_strong_94 : decode cX9_strong 94 = .ok (.goto (-83), 3) := by decide +kernel
theorem dX9_strong_97 : decode cX9_strong 97 = .ok (.iconst 1, 1) := by decide +kernel
theorem dX9_strong_98 : decode cX9_strong 98 = .ok (.ireturn, 1) := by decide +kernel
theorem dX9_moved_0 : decode cX9_moved 0 = .ok (.iconst 0, 1) := by decide +kernel
theorem dX9_moved_1 : decode cX9_moved 1 = .ok (.istore_n 1, 1) := by decide +kernel
theorem dX9_moved_2 : decode cX9_moved 2 = .ok (.iconst 0, 1) := by decide +kernel
theorem dX9_moved_3 : decode cX9_moved 3 = .ok (.istore_n 2, 1) := by decide +kernel
theorem dX9_moved_4 : decode cX9_moved 4 = .ok (.iload_n 2, 1) := by decide +kernel
theorem dX9_moved_5 : decode cX9_moved 5 = .ok (.aload_n 0, 1) := by decide +kernel
theorem dX9_moved_6 : decode cX9_moved 6 = .ok (.getfield 13, 3) := by decide +kernel
theorem dX9_moved_9 : decode cX9_moved 9 = .ok (.iconst 0, 1) := by decide +kernel
theorem dX9_moved_10 : decode cX9_moved 10 = .ok (.iaload, 1) := by decide +kernel
theorem dX9_moved_11 : decode cX9_moved 11 = .ok (.if_icmp .ge 32, 3) := by decide +kernel
theorem dX9_moved_14 : decode cX9_moved 14 = .ok (.iload_n 1, 1) := by decide +kernel
theorem dX9_moved_15 : decode cX9_moved 15 = .ok (.aload_n 0, 1) := by decide +kernel
theorem dX9_moved_16 : decode cX9_moved 16 = .ok (.getfield 61, 3) := by decide +kernel
theorem dX9_moved_19 : decode cX9_moved 19 = .ok (.iload_n 2, 1) := by decide +kernel
theorem dX9_moved_20 : decode cX9_moved 20 = .ok (.iaload, 1) := by decide +kernel
theorem dX9_moved_21 : decode cX9_moved 21 = .ok (.aload_n 0, 1) := by decide +kernel
theorem dX9_moved_22 : decode cX9_moved 22 = .ok (.getfield 70, 3) := by decide +kernel
theorem dX9_moved_25 : decode cX9_moved 25 = .ok (.iload_n 2, 1) := by decide +kernel
theorem dX9_moved_26 : decode cX9_moved 26 = .ok (.iaload, 1) := by decide +kernel
theorem dX9_moved_27 : decode cX9_moved 27 = .ok (.if_icmp .eq 7, 3) := by decide +kernel
theorem dX9_moved_30 : decode cX9_moved 30 = .ok (.iconst 1, 1) := by decide +kernel
theorem dX9_moved_31 : decode cX9_moved 31 = .ok (.goto 4, 3) := by decide +kernel
theorem dX9_moved_34 : decode cX9_moved 34 = .ok (.iconst 0, 1) := by decide +kernel
theorem dX9_moved_35 : decode cX9_moved 35 = .ok (.iadd, 1) := by decide +kernel
theorem dX9_moved_36 : decode cX9_moved 36 = .ok (.istore_n 1, 1) := by decide +kernel
theorem dX9_moved_37 : decode cX9_moved 37 = .ok (.iinc 2 1, 3) := by decide +kernel
theorem dX9_moved_40 : decode cX9_moved 40 = .ok (.goto (-36), 3) := by decide +kernel
theorem dX9_moved_43 : decode cX9_moved 43 = .ok (.iload_n 1, 1) := by decide +kernel
theorem dX9_moved_44 : decode cX9_moved 44 = .ok (.ireturn, 1) := by decide +kernel
theorem dX9_logs_0 : decode cX9_logs 0 = .ok (.sipush 179, 3) := by decide +kernel
theorem dX9_logs_3 : decode cX9_logs 3 = .ok (.istore 6, 2) := by decide +kernel
theorem dX9_logs_5 : decode cX9_logs 5 = .ok (.iload 6, 2) := by decide +kernel
theorem dX9_logs_7 : decode cX9_logs 7 = .ok (.bipush 105, 2) := by decide +kernel
theorem dX9_logs_9 : decode cX9_logs 9 = .ok (.if_icmp .lt 25, 3) := by decide +kernel
theorem dX9_logs_12 : decode cX9_logs 12 = .ok (.aload_n 0, 1) := by decide +kernel
theorem dX9_logs_13 : decode cX9_logs 13 = .ok (.getfield 39, 3) := by decide +kernel
theorem dX9_logs_16 : decode cX9_logs 16 = .ok (.iload 6, 2) := by decide +kernel
theorem dX9_logs_18 : decode cX9_logs 18 = .ok (.aload_n 0, 1) := by decide +kernel
theorem dX9_logs_19 : decode cX9_logs 19 = .ok (.getfield 39, 3) := by decide +kernel
theorem dX9_logs_22 : decode cX9_logs 22 = .ok (.iload 6, 2) := by decide +kernel
theorem dX9_logs_24 : decode cX9_logs 24 = .ok (.iconst 5, 1) := by decide +kernel
theorem dX9_logs_25 : decode cX9_logs 25 = .ok (.isub, 1) := by decide +kernel
theorem dX9_logs_26 : decode cX9_logs 26 = .ok (.iaload, 1) := by decide +kernel
theorem dX9_logs_27 : decode cX9_logs 27 = .ok (.iastore, 1) := by decide +kernel
theorem dX9_logs_28 : decode cX9_logs 28 = .ok (.iinc 6 (-1), 3) := by decide +kernel
theorem dX9_logs_31 : decode cX9_logs 31 = .ok (.goto (-26), 3) := by decide +kernel
theorem dX9_logs_34 : decode cX9_logs 34 = .ok (.aload_n 0, 1) := by decide +kernel
theorem dX9_logs_35 : decode cX9_logs 35 = .ok (.getfield 39, 3) := by decide +kernel
theorem dX9_logs_38 : decode cX9_logs 38 = .ok (.bipush 100, 2) := by decide +kernel
theorem dX9_logs_40 : decode cX9_logs 40 = .ok (.iload_n 1, 1) := by decide +kernel
theorem dX9_logs_41 : decode cX9_logs 41 = .ok (.iastore, 1) := by decide +kernel
theorem dX9_logs_42 : decode cX9_logs 42 = .ok (.aload_n 0, 1) := by decide +kernel
theorem dX9_logs_43 : decode cX9_logs 43 = .ok (.getfield 39, 3) := by decide +kernel
theorem dX9_logs_46 : decode cX9_logs 46 = .ok (.bipush 101, 2) := by decide +kernel
theorem dX9_logs_48 : decode cX9_logs 48 = .ok (.iload_n 2, 1) := by decide +kernel
theorem dX9_logs_49 : decode cX9_logs 49 = .ok (.iastore, 1) := by decide +kernel
theorem dX9_logs_50 : decode cX9_logs 50 = .ok (.aload_n 0, 1) := by decide +kernel
theorem dX9_logs_51 : decode cX9_logs 51 = .ok (.getfield 39, 3) := by decide +kernel
theorem dX9_logs_54 : decode cX9_logs 54 = .ok (.bipush 102, 2) := by decide +kernel
theorem dX9_logs_56 : decode cX9_logs 56 = .ok (.iload_n 3, 1) := by decide +kernel
theorem dX9_logs_57 : decode cX9_logs 57 = .ok (.iastore, 1) := by decide +kernel
theorem dX9_logs_58 : decode cX9_logs 58 = .ok (.aload_n 0, 1) := by decide +kernel
theorem dX9_logs_59 : decode cX9_logs 59 = .ok (.getfield 39, 3) := by decide +kernel
theorem dX9_logs_62 : decode cX9_logs 62 = .ok (.bipush 103, 2) := by decide +kernel
theorem dX9_logs_64 : decode cX9_logs 64 = .ok (.iload 4, 2) := by decide +kernel
theorem dX9_logs_66 : decode cX9_logs 66 = .ok (.iastore, 1) := by decide +kernel
theorem dX9_logs_67 : decode cX9_logs 67 = .ok (.aload_n 0, 1) := by decide +kernel
theorem dX9_logs_68 : decode cX9_logs 68 = .ok (.getfield 39, 3) := by decide +kernel
theorem dX9_logs_71 : decode cX9_logs 71 = .ok (.bipush 104, 2) := by decide +kernel
theorem dX9_logs_73 : decode cX9_logs 73 = .ok (.iload 5, 2) := by decide +kernel
theorem dX9_logs_75 : decode cX9_logs 75 = .ok (.iastore, 1) := by decide +kernel
theorem dX9_logs_76 : decode cX9_logs 76 = .ok (.aload_n 0, 1) := by decide +kernel
theorem dX9_logs_77 : decode cX9_logs 77 = .ok (.getfield 39, 3) := by decide +kernel
theorem dX9_logs_80 : decode cX9_logs 80 = .ok (.bipush 99, 2) := by decide +kernel
theorem dX9_logs_82 : decode cX9_logs 82 = .ok (.iaload, 1) := by decide +kernel
theorem dX9_logs_83 : decode cX9_logs 83 = .ok (.bipush 16, 2) := by decide +kernel
theorem dX9_logs_85 : decode cX9_logs 85 = .ok (.if_icmp .ge 14, 3) := by decide +kernel
theorem dX9_logs_88 : decode cX9_logs 88 = .ok (.aload_n 0, 1) := by decide +kernel
theorem dX9_logs_89 : decode cX9_logs 89 = .ok (.getfield 39, 3) := by decide +kernel
theorem dX9_logs_92 : decode cX9_logs 92 = .ok (.bipush 99, 2) := by decide +kernel
theorem dX9_logs_94 : decode cX9_logs 94 = .ok (.dup2, 1) := by decide +kernel
theorem dX9_logs_95 : decode cX9_logs 95 = .ok (.iaload, 1) := by decide +kernel
theorem dX9_logs_96 : decode cX9_logs 96 = .ok (.iconst 1, 1) := by decide +kernel
theorem dX9_logs_97 : decode cX9_logs 97 = .ok (.iadd, 1) := by decide +kernel
theorem dX9_logs_98 : decode cX9_logs 98 = .ok (.iastore, 1) := by decide +kernel
theorem dX9_logs_99 : decode cX9_logs 99 = .ok (.aload_n 0, 1) := by decide +kernel
theorem dX9_logs_100 : decode cX9_logs 100 = .ok (.getfield 39, 3) := by decide +kernel
theorem dX9_logs_103 : decode cX9_logs 103 = .ok (.bipush 98, 2) := by decide +kernel
theorem dX9_logs_105 : decode cX9_logs 105 = .ok (.dup2, 1) := by decide +kernel
theorem dX9_logs_106 : decode cX9_logs 106 = .ok (.iaload, 1) := by decide +kernel
theorem dX9_logs_107 : decode cX9_logs 107 = .ok (.iconst 1, 1) := by decide +kernel
theorem dX9_logs_108 : decode cX9_logs 108 = .ok (.iadd, 1) := by decide +kernel
theorem dX9_logs_109 : decode cX9_logs 109 = .ok (.iastore, 1) := by decide +kernel
theorem dX9_logs_110 : decode cX9_logs 110 = .ok (.return_, 1) := by decide +kernel
theorem dX9_pivot_0 : decode cX9_pivot 0 = .ok (.aload_n 0, 1) := by decide +kernel
theorem dX9_pivot_1 : decode cX9_pivot 1 = .ok (.invokevirtual 242, 3) := by decide +kernel
theorem dX9_pivot_4 : decode cX9_pivot 4 = .ok (.aload_n 0, 1) := by decide +kernel
theorem dX9_pivot_5 : decode cX9_pivot 5 = .ok (.invokevirtual 301, 3) := by decide +kernel
theorem dX9_pivot_8 : decode cX9_pivot 8 = .ok (.istore_n 1, 1) := by decide +kernel
theorem dX9_pivot_9 : decode cX9_pivot 9 = .ok (.iload_n 1, 1) := by decide +kernel
theorem dX9_pivot_10 : decode cX9_pivot 10 = .ok (.iconst (-1), 1) := by decide +kernel
theorem dX9_pivot_11 : decode cX9_pivot 11 = .ok (.if_icmp .ne 5, 3) := by decide +kernel
theorem dX9_pivot_14 : decode cX9_pivot 14 = .ok (.iconst (-1), 1) := by decide +kernel
theorem dX9_pivot_15 : decode cX9_pivot 15 = .ok (.ireturn, 1) := by decide +kernel
theorem dX9_pivot_16 : decode cX9_pivot 16 = .ok (.aload_n 0, 1) := by decide +kernel
theorem dX9_pivot_17 : decode cX9_pivot 17 = .ok (.getfield 39, 3) := by decide +kernel
theorem dX9_pivot_20 : decode cX9_pivot 20 = .ok (.bipush 41, 2) := by decide +kernel
theorem dX9_pivot_22 : decode cX9_pivot 22 = .ok (.aload_n 0, 1) := by decide +kernel
theorem dX9_pivot_23 : decode cX9_pivot 23 = .ok (.getfield 274, 3) := by decide +kernel
theorem dX9_pivot_26 : decode cX9_pivot 26 = .ok (.iastore, 1) := by decide +kernel
theorem dX9_pivot_27 : decode cX9_pivot 27 = .ok (.aload_n 0, 1) := by decide +kernel
theorem dX9_pivot_28 : decode cX9_pivot 28 = .ok (.iload_n 1, 1) := by decide +kernel
theorem dX9_pivot_29 : decode cX9_pivot 29 = .ok (.invokevirtual 304, 3) := by decide +kernel
theorem dX9_pivot_32 : decode cX9_pivot 32 = .ok (.iconst 0, 1) := by decide +kernel
theorem dX9_pivot_33 : decode cX9_pivot 33 = .ok (.istore_n 2, 1) := by decide +kernel
theorem dX9_pivot_34 : decode cX9_pivot 34 = .ok (.iload_n 2, 1) := by decide +kernel
theorem dX9_pivot_35 : decode cX9_pivot 35 = .ok (.aload_n 0, 1) := by decide +kernel
theorem dX9_pivot_36 : decode cX9_pivot 36 = .ok (.getfield 286, 3) := by decide +kernel
theorem dX9_pivot_39 : decode cX9_pivot 39 = .ok (.if_icmp .ge 47, 3) := by decide +kernel
theorem dX9_pivot_42 : decode cX9_pivot 42 = .ok (.aload_n 0, 1) := by decide +kernel
theorem dX9_pivot_43 : decode cX9_pivot 43 = .ok (.getfield 39, 3) := by decide +kernel
theorem dX9_pivot_46 : decode cX9_pivot 46 = .ok (.bipush 50, 2) := by decide +kernel
theorem dX9_pivot_48 : decode cX9_pivot 48 = .ok (.aload_n 0, 1) := by decide +kernel
theorem dX9_pivot_49 : decode cX9_pivot 49 = .ok (.getfield 64, 3) := by decide +kernel
theorem dX9_pivot_52 : decode cX9_pivot 52 = .ok (.iload_n 2, 1) := by decide +kernel
theorem dX9_pivot_53 : decode cX9_pivot 53 = .ok (.iaload, 1) := by decide +kernel
theorem dX9_pivot_54 : decode cX9_pivot 54 = .ok (.iadd, 1) := by decide +kernel
theorem dX9_pivot_55 : decode cX9_pivot 55 = .ok (.dup2, 1) := by decide +kernel
theorem dX9_pivot_56 : decode cX9_pivot 56 = .ok (.iaload, 1) := by decide +kernel
theorem dX9_pivot_57 : decode cX9_pivot 57 = .ok (.aload_n 0, 1) := by decide +kernel
theorem dX9_pivot_58 : decode cX9_pivot 58 = .ok (.getfield 67, 3) := by decide +kernel
theorem dX9_pivot_61 : decode cX9_pivot 61 = .ok (.iload_n 2, 1) := by decide +kernel
theorem dX9_pivot_62 : decode cX9_pivot 62 = .ok (.baload, 1) := by decide +kernel
theorem dX9_pivot_63 : decode cX9_pivot 63 = .ok (.ifCond .eq 10, 3) := by decide +kernel
theorem dX9_pivot_66 : decode cX9_pivot 66 = .ok (.aload_n 0, 1) := by decide +kernel
theorem dX9_pivot_67 : decode cX9_pivot 67 = .ok (.getfield 292, 3) := by decide +kernel
theorem dX9_pivot_70 : decode cX9_pivot 70 = .ok (.goto 8, 3) := by decide +kernel
theorem dX9_pivot_73 : decode cX9_pivot 73 = .ok (.aload_n 0, 1) := by decide +kernel
theorem dX9_pivot_74 : decode cX9_pivot 74 = .ok (.getfield 292, 3) := by decide +kernel
theorem dX9_pivot_77 : decode cX9_pivot 77 = .ok (.ineg, 1) := by decide +kernel
theorem dX9_pivot_78 : decode cX9_pivot 78 = .ok (.iadd, 1) := by decide +kernel
theorem dX9_pivot_79 : decode cX9_pivot 79 = .ok (.iastore, 1) := by decide +kernel
theorem dX9_pivot_80 : decode cX9_pivot 80 = .ok (.iinc 2 1, 3) := by decide +kernel
theorem dX9_pivot_83 : decode cX9_pivot 83 = .ok (.goto (-49), 3) := by decide +kernel
theorem dX9_pivot_86 : decode cX9_pivot 86 = .ok (.aload_n 0, 1) := by decide +kernel
theorem dX9_pivot_87 : decode cX9_pivot 87 = .ok (.getfield 64, 3) := by decide +kernel
theorem dX9_pivot_90 : decode cX9_pivot 90 = .ok (.aload_n 0, 1) := by decide +kernel
theorem dX9_pivot_91 : decode cX9_pivot 91 = .ok (.getfield 295, 3) := by decide +kernel
theorem dX9_pivot_94 : decode cX9_pivot 94 = .ok (.iaload, 1) := by decide +kernel
theorem dX9_pivot_95 : decode cX9_pivot 95 = .ok (.istore_n 2, 1) := by decide +kernel
theorem dX9_pivot_96 : decode cX9_pivot 96 = .ok (.iconst 0, 1) := by decide +kernel
theorem dX9_pivot_97 : decode cX9_pivot 97 = .ok (.istore_n 3, 1) := by decide +kernel
theorem dX9_pivot_98 : decode cX9_pivot 98 = .ok (.iload_n 3, 1) := by decide +kernel
theorem dX9_pivot_99 : decode cX9_pivot 99 = .ok (.bipush 9, 2) := by decide +kernel
theorem dX9_pivot_101 : decode cX9_pivot 101 = .ok (.if_icmp .ge 21, 3) := by decide +kernel
theorem dX9_pivot_104 : decode cX9_pivot 104 = .ok (.aload_n 0, 1) := by decide +kernel
theorem dX9_pivot_105 : decode cX9_pivot 105 = .ok (.getfield 70, 3) := by decide +kernel
theorem dX9_pivot_108 : decode cX9_pivot 108 = .ok (.iload_n 3, 1) := by decide +kernel
theorem dX9_pivot_109 : decode cX9_pivot 109 = .ok (.aload_n 0, 1) := by decide +kernel
theorem dX9_pivot_110 : decode cX9_pivot 110 = .ok (.getfield 61, 3) := by decide +kernel
theorem dX9_pivot_113 : decode cX9_pivot 113 = .ok (.iload_n 3, 1) := by decide +kernel
theorem dX9_pivot_114 : decode cX9_pivot 114 = .ok (.iaload, 1) := by decide +kernel
theorem dX9_pivot_115 : decode cX9_pivot 115 = .ok (.iastore, 1) := by decide +kernel
theorem dX9_pivot_116 : decode cX9_pivot 116 = .ok (.iinc 3 1, 3) := by decide +kernel
theorem dX9_pivot_119 : decode cX9_pivot 119 = .ok (.goto (-21), 3) := by decide +kernel
theorem dX9_pivot_122 : decode cX9_pivot 122 = .ok (.iload_n 2, 1) := by decide +kernel
theorem dX9_pivot_123 : decode cX9_pivot 123 = .ok (.iload_n 1, 1) := by decide +kernel
theorem dX9_pivot_124 : decode cX9_pivot 124 = .ok (.if_icmp .ne 33, 3) := by decide +kernel
theorem dX9_pivot_127 : decode cX9_pivot 127 = .ok (.aload_n 0, 1) := by decide +kernel
theorem dX9_pivot_128 : decode cX9_pivot 128 = .ok (.getfield 39, 3) := by decide +kernel
theorem dX9_pivot_131 : decode cX9_pivot 131 = .ok (.bipush 74, 2) := by decide +kernel
theorem dX9_pivot_133 : decode cX9_pivot 133 = .ok (.iload_n 1, 1) := by decide +kernel
theorem dX9_pivot_134 : decode cX9_pivot 134 = .ok (.iadd, 1) := by decide +kernel
theorem dX9_pivot_135 : decode cX9_pivot 135 = .ok (.aload_n 0, 1) := by decide +kernel
theorem dX9_pivot_136 : decode cX9_pivot 136 = .ok (.getfield 39, 3) := by decide +kernel
theorem dX9_pivot_139 : decode cX9_pivot 139 = .ok (.bipush 74, 2) := by decide +kernel
theorem dX9_pivot_141 : decode cX9_pivot 141 = .ok (.iload_n 1, 1) := by decide +kernel
theorem dX9_pivot_142 : decode cX9_pivot 142 = .ok (.iadd, 1) := by decide +kernel
theorem dX9_pivot_143 : decode cX9_pivot 143 = .ok (.iaload, 1) := by decide +kernel
theorem dX9_pivot_144 : decode cX9_pivot 144 = .ok (.iconst 1, 1) := by decide +kernel
theorem dX9_pivot_145 : decode cX9_pivot 145 = .ok (.if_icmp .ne 7, 3) := by decide +kernel
theorem dX9_pivot_148 : decode cX9_pivot 148 = .ok (.iconst 2, 1) := by decide +kernel
theorem dX9_pivot_149 : decode cX9_pivot 149 = .ok (.goto 4, 3) := by decide +kernel
theorem dX9_pivot_152 : decode cX9_pivot 152 = .ok (.iconst 1, 1) := by decide +kernel
theorem dX9_pivot_153 : decode cX9_pivot 153 = .ok (.iastore, 1) := by decide +kernel
theorem dX9_pivot_154 : decode cX9_pivot 154 = .ok (.goto 39, 3) := by decide +kernel
theorem dX9_pivot_157 : decode cX9_pivot 157 = .ok (.aload_n 0, 1) := by decide +kernel
theorem dX9_pivot_158 : decode cX9_pivot 158 = .ok (.getfield 39, 3) := by decide +kernel
theorem dX9_pivot_161 : decode cX9_pivot 161 = .ok (.bipush 74, 2) := by decide +kernel
theorem dX9_pivot_163 : decode cX9_pivot 163 = .ok (.iload_n 1, 1) := by decide +kernel
theorem dX9_pivot_164 : decode cX9_pivot 164 = .ok (.iadd, 1) := by decide +kernel
theorem dX9_pivot_165 : decode cX9_pivot 165 = .ok (.iconst 0, 1) := by decide +kernel
theorem dX9_pivot_166 : decode cX9_pivot 166 = .ok (.iastore, 1) := by decide +kernel
theorem dX9_pivot_167 : decode cX9_pivot 167 = .ok (.aload_n 0, 1) := by decide +kernel
theorem dX9_pivot_168 : decode cX9_pivot 168 = .ok (.getfield 39, 3) := by decide +kernel
theorem dX9_pivot_171 : decode cX9_pivot 171 = .ok (.bipush 74, 2) := by decide +kernel
theorem dX9_pivot_173 : decode cX9_pivot 173 = .ok (.iload_n 2, 1) := by decide +kernel
theorem dX9_pivot_174 : decode cX9_pivot 174 = .ok (.iadd, 1) := by decide +kernel
theorem dX9_pivot_175 : decode cX9_pivot 175 = .ok (.aload_n 0, 1) := by decide +kernel
theorem dX9_pivot_176 : decode cX9_pivot 176 = .ok (.getfield 67, 3) := by decide +kernel
theorem dX9_pivot_179 : decode cX9_pivot 179 = .ok (.aload_n 0, 1) := by decide +kernel
theorem dX9_pivot_180 : decode cX9_pivot 180 = .ok (.getfield 295, 3) := by decide +kernel
theorem dX9_pivot_183 : decode cX9_pivot 183 = .ok (.baload, 1) := by decide +kernel
theorem dX9_pivot_184 : decode cX9_pivot 184 = .ok (.ifCond .eq 7, 3) := by decide +kernel
theorem dX9_pivot_187 : decode cX9_pivot 187 = .ok (.iconst 2, 1) := by decide +kernel
theorem dX9_pivot_188 : decode cX9_pivot 188 = .ok (.goto 4, 3) := by decide +kernel
theorem dX9_pivot_191 : decode cX9_pivot 191 = .ok (.iconst 1, 1) := by decide +kernel
theorem dX9_pivot_192 : decode cX9_pivot 192 = .ok (.iastore, 1) := by decide +kernel
theorem dX9_pivot_193 : decode cX9_pivot 193 = .ok (.aload_n 0, 1) := by decide +kernel
theorem dX9_pivot_194 : decode cX9_pivot 194 = .ok (.invokevirtual 242, 3) := by decide +kernel
theorem dX9_pivot_197 : decode cX9_pivot 197 = .ok (.aload_n 0, 1) := by decide +kernel
theorem dX9_pivot_198 : decode cX9_pivot 198 = .ok (.iload_n 1, 1) := by decide +kernel
theorem dX9_pivot_199 : decode cX9_pivot 199 = .ok (.iload_n 2, 1) := by decide +kernel
theorem dX9_pivot_200 : decode cX9_pivot 200 = .ok (.aload_n 0, 1) := by decide +kernel
theorem dX9_pivot_201 : decode cX9_pivot 201 = .ok (.getfield 292, 3) := by decide +kernel
theorem dX9_pivot_204 : decode cX9_pivot 204 = .ok (.aload_n 0, 1) := by decide +kernel
theorem dX9_pivot_205 : decode cX9_pivot 205 = .ok (.getfield 286, 3) := by decide +kernel
theorem dX9_pivot_208 : decode cX9_pivot 208 = .ok (.aload_n 0, 1) := by decide +kernel
theorem dX9_pivot_209 : decode cX9_pivot 209 = .ok (.invokevirtual 309, 3) := by decide +kernel
theorem dX9_pivot_212 : decode cX9_pivot 212 = .ok (.invokevirtual 312, 3) := by decide +kernel
theorem dX9_pivot_215 : decode cX9_pivot 215 = .ok (.iload_n 1, 1) := by decide +kernel
theorem dX9_pivot_216 : decode cX9_pivot 216 = .ok (.ireturn, 1) := by decide +kernel
theorem dX9_keeps_0 : decode cX9_keeps 0 = .ok (.aload_n 0, 1) := by decide +kernel
theorem dX9_keeps_1 : decode cX9_keeps 1 = .ok (.getfield 215, 3) := by decide +kernel
theorem dX9_keeps_4 : decode cX9_keeps 4 = .ok (.bipush 12, 2) := by decide +kernel
theorem dX9_keeps_6 : decode cX9_keeps 6 = .ok (.if_icmp .ne 44, 3) := by decide +kernel
theorem dX9_keeps_9 : decode cX9_keeps 9 = .ok (.iconst 0, 1) := by decide +kernel
theorem dX9_keeps_10 : decode cX9_keeps 10 = .ok (.istore_n 1, 1) := by decide +kernel
theorem dX9_keeps_11 : decode cX9_keeps 11 = .ok (.iload_n 1, 1) := by decide +kernel
theorem dX9_keeps_12 : decode cX9_keeps 12 = .ok (.sipush 1980, 3) := by decide +kernel
theorem dX9_keeps_15 : decode cX9_keeps 15 = .ok (.if_icmp .ge 25, 3) := by decide +kernel
theorem dX9_keeps_18 : decode cX9_keeps 18 = .ok (.aload_n 0, 1) := by decide +kernel
theorem dX9_keeps_19 : decode cX9_keeps 19 = .ok (.getfield 42, 3) := by decide +kernel
theorem dX9_keeps_22 : decode cX9_keeps 22 = .ok (.iload_n 1, 1) := by decide +kernel
theorem dX9_keeps_23 : decode cX9_keeps 23 = .ok (.aload_n 0, 1) := by decide +kernel
theorem dX9_keeps_24 : decode cX9_keeps 24 = .ok (.getfield 42, 3) := by decide +kernel
theorem dX9_keeps_27 : decode cX9_keeps 27 = .ok (.iload_n 1, 1) := by decide +kernel
theorem dX9_keeps_28 : decode cX9_keeps 28 = .ok (.sipush 180, 3) := by decide +kernel
theorem dX9_keeps_31 : decode cX9_keeps 31 = .ok (.iadd, 1) := by decide +kernel
theorem dX9_keeps_32 : decode cX9_keeps 32 = .ok (.iaload, 1) := by decide +kernel
theorem dX9_keeps_33 : decode cX9_keeps 33 = .ok (.iastore, 1) := by decide +kernel
theorem dX9_keeps_34 : decode cX9_keeps 34 = .ok (.iinc 1 1, 3) := by decide +kernel
theorem dX9_keeps_37 : decode cX9_keeps 37 = .ok (.goto (-26), 3) := by decide +kernel
theorem dX9_keeps_40 : decode cX9_keeps 40 = .ok (.aload_n 0, 1) := by decide +kernel
theorem dX9_keeps_41 : decode cX9_keeps 41 = .ok (.dup, 1) := by decide +kernel
theorem dX9_keeps_42 : decode cX9_keeps 42 = .ok (.getfield 215, 3) := by decide +kernel
theorem dX9_keeps_45 : decode cX9_keeps 45 = .ok (.iconst 1, 1) := by decide +kernel
theorem dX9_keeps_46 : decode cX9_keeps 46 = .ok (.isub, 1) := by decide +kernel
theorem dX9_keeps_47 : decode cX9_keeps 47 = .ok (.putfield 215, 3) := by decide +kernel
theorem dX9_keeps_50 : decode cX9_keeps 50 = .ok (.iconst 0, 1) := by decide +kernel
theorem dX9_keeps_51 : decode cX9_keeps 51 = .ok (.istore_n 1, 1) := by decide +kernel
theorem dX9_keeps_52 : decode cX9_keeps 52 = .ok (.iload_n 1, 1) := by decide +kernel
theorem dX9_keeps_53 : decode cX9_keeps 53 = .ok (.sipush 180, 3) := by decide +kernel
theorem dX9_keeps_56 : decode cX9_keeps 56 = .ok (.if_icmp .ge 30, 3) := by decide +kernel
theorem dX9_keeps_59 : decode cX9_keeps 59 = .ok (.aload_n 0, 1) := by decide +kernel
theorem dX9_keeps_60 : decode cX9_keeps 60 = .ok (.getfield 42, 3) := by decide +kernel
theorem dX9_keeps_63 : decode cX9_keeps 63 = .ok (.sipush 180, 3) := by decide +kernel
theorem dX9_keeps_66 : decode cX9_keeps 66 = .ok (.aload_n 0, 1) := by decide +kernel
theorem dX9_keeps_67 : decode cX9_keeps 67 = .ok (.getfield 215, 3) := by decide +kernel
theorem dX9_keeps_70 : decode cX9_keeps 70 = .ok (.imul, 1) := by decide +kernel
theorem dX9_keeps_71 : decode cX9_keeps 71 = .ok (.iload_n 1, 1) := by decide +kernel
theorem dX9_keeps_72 : decode cX9_keeps 72 = .ok (.iadd, 1) := by decide +kernel
theorem dX9_keeps_73 : decode cX9_keeps 73 = .ok (.aload_n 0, 1) := by decide +kernel
theorem dX9_keeps_74 : decode cX9_keeps 74 = .ok (.getfield 39, 3) := by decide +kernel
theorem dX9_keeps_77 : decode cX9_keeps 77 = .ok (.iload_n 1, 1) := by decide +kernel
theorem dX9_keeps_78 : decode cX9_keeps 78 = .ok (.iaload, 1) := by decide +kernel
theorem dX9_keeps_79 : decode cX9_keeps 79 = .ok (.iastore, 1) := by decide +kernel
theorem dX9_keeps_80 : decode cX9_keeps 80 = .ok (.iinc 1 1, 3) := by decide +kernel
theorem dX9_keeps_83 : decode cX9_keeps 83 = .ok (.goto (-31), 3) := by decide +kernel
theorem dX9_keeps_86 : decode cX9_keeps 86 = .ok (.aload_n 0, 1) := by decide +kernel
theorem dX9_keeps_87 : decode cX9_keeps 87 = .ok (.dup, 1) := by decide +kernel
theorem dX9_keeps_88 : decode cX9_keeps 88 = .ok (.getfield 215, 3) := by decide +kernel
theorem dX9_keeps_91 : decode cX9_keeps 91 = .ok (.iconst 1, 1) := by decide +kernel
theorem dX9_keeps_92 : decode cX9_keeps 92 = .ok (.iadd, 1) := by decide +kernel
theorem dX9_keeps_93 : decode cX9_keeps 93 = .ok (.putfield 215, 3) := by decide +kernel
theorem dX9_keeps_96 : decode cX9_keeps 96 = .ok (.return_, 1) := by decide +kernel
theorem dX9_step_0 : decode cX9_step 0 = .ok (.aload_n 0, 1) := by decide +kernel
theorem dX9_step_1 : decode cX9_step 1 = .ok (.iconst 0, 1) := by decide +kernel
theorem dX9_step_2 : decode cX9_step 2 = .ok (.putfield 82, 3) := by decide +kernel
theorem dX9_step_5 : decode cX9_step 5 = .ok (.aload_n 0, 1) := by decide +kernel
theorem dX9_step_6 : decode cX9_step 6 = .ok (.invokevirtual 316, 3) := by decide +kernel
theorem dX9_step_9 : decode cX9_step 9 = .ok (.ifCond .eq 6, 3) := by decide +kernel
theorem dX9_step_12 : decode cX9_step 12 = .ok (.bipush (-2), 2) := by decide +kernel
theorem dX9_step_14 : decode cX9_step 14 = .ok (.ireturn, 1) := by decide +kernel
theorem dX9_step_15 : decode cX9_step 15 = .ok (.aload_n 0, 1) := by decide +kernel
theorem dX9_step_16 : decode cX9_step 16 = .ok (.invokevirtual 319, 3) := by decide +kernel
theorem dX9_step_19 : decode cX9_step 19 = .ok (.aload_n 0, 1) := by decide +kernel
theorem dX9_step_20 : decode cX9_step 20 = .ok (.invokevirtual 322, 3) := by decide +kernel
theorem dX9_step_23 : decode cX9_step 23 = .ok (.ireturn, 1) := by decide +kernel
theorem dX9_run_0 : decode cX9_run 0 = .ok (.aload_n 0, 1) := by decide +kernel
theorem dX9_run_1 : decode cX9_run 1 = .ok (.iconst 0, 1) := by decide +kernel
theorem dX9_run_2 : decode cX9_run 2 = .ok (.putfield 82, 3) := by decide +kernel
theorem dX9_run_5 : decode cX9_run 5 = .ok (.iload_n 1, 1) := by decide +kernel
theorem dX9_run_6 : decode cX9_run 6 = .ok (.i2l, 1) := by decide +kernel
theorem dX9_run_7 : decode cX9_run 7 = .ok (.lconst 1, 1) := by decide +kernel
theorem dX9_run_8 : decode cX9_run 8 = .ok (.ldc2_w 325, 3) := by decide +kernel
theorem dX9_run_11 : decode cX9_run 11 = .ok (.invokestatic 120, 3) := by decide +kernel
theorem dX9_run_14 : decode cX9_run 14 = .ok (.ifCond .ne 5, 3) := by decide +kernel
theorem dX9_run_17 : decode cX9_run 17 = .ok (.iconst (-1), 1) := by decide +kernel
theorem dX9_run_18 : decode cX9_run 18 = .ok (.ireturn, 1) := by decide +kernel
theorem dX9_run_19 : decode cX9_run 19 = .ok (.aload_n 0, 1) := by decide +kernel
theorem dX9_run_20 : decode cX9_run 20 = .ok (.invokevirtual 316, 3) := by decide +kernel
theorem dX9_run_23 : decode cX9_run 23 = .ok (.ifCond .eq 5, 3) := by decide +kernel
theorem dX9_run_26 : decode cX9_run 26 = .ok (.iconst 0, 1) := by decide +kernel
theorem dX9_run_27 : decode cX9_run 27 = .ok (.ireturn, 1) := by decide +kernel
theorem dX9_run_28 : decode cX9_run 28 = .ok (.aload_n 0, 1) := by decide +kernel
theorem dX9_run_29 : decode cX9_run 29 = .ok (.invokevirtual 319, 3) := by decide +kernel
theorem dX9_run_32 : decode cX9_run 32 = .ok (.iconst 0, 1) := by decide +kernel
theorem dX9_run_33 : decode cX9_run 33 = .ok (.istore_n 2, 1) := by decide +kernel
theorem dX9_run_34 : decode cX9_run 34 = .ok (.iload_n 2, 1) := by decide +kernel
theorem dX9_run_35 : decode cX9_run 35 = .ok (.iload_n 1, 1) := by decide +kernel
theorem dX9_run_36 : decode cX9_run 36 = .ok (.if_icmp .ge 17, 3) := by decide +kernel
theorem dX9_run_39 : decode cX9_run 39 = .ok (.aload_n 0, 1) := by decide +kernel
theorem dX9_run_40 : decode cX9_run 40 = .ok (.invokevirtual 322, 3) := by decide +kernel
theorem dX9_run_43 : decode cX9_run 43 = .ok (.iconst (-1), 1) := by decide +kernel
theorem dX9_run_44 : decode cX9_run 44 = .ok (.if_icmp .eq 9, 3) := by decide +kernel
theorem dX9_run_47 : decode cX9_run 47 = .ok (.iinc 2 1, 3) := by decide +kernel
theorem dX9_run_50 : decode cX9_run 50 = .ok (.goto (-16), 3) := by decide +kernel
theorem dX9_run_53 : decode cX9_run 53 = .ok (.iload_n 2, 1) := by decide +kernel
theorem dX9_run_54 : decode cX9_run 54 = .ok (.ireturn, 1) := by decide +kernel
theorem dX9_log_0 : decode cX9_log 0 = .ok (.aload_n 0, 1) := by decide +kernel
theorem dX9_log_1 : decode cX9_log 1 = .ok (.iload_n 1, 1) := by decide +kernel
theorem dX9_log_2 : decode cX9_log 2 = .ok (.i2l, 1) := by decide +kernel
theorem dX9_log_3 : decode cX9_log 3 = .ok (.lconst 0, 1) := by decide +kernel
theorem dX9_log_4 : decode cX9_log 4 = .ok (.aload_n 0, 1) := by decide +kernel
theorem dX9_log_5 : decode cX9_log 5 = .ok (.getfield 39, 3) := by decide +kernel
theorem dX9_log_8 : decode cX9_log 8 = .ok (.bipush 99, 2) := by decide +kernel
theorem dX9_log_10 : decode cX9_log 10 = .ok (.iaload, 1) := by decide +kernel
theorem dX9_log_11 : decode cX9_log 11 = .ok (.iconst 1, 1) := by decide +kernel
theorem dX9_log_12 : decode cX9_log 12 = .ok (.isub, 1) := by decide +kernel
theorem dX9_log_13 : decode cX9_log 13 = .ok (.i2l, 1) := by decide +kernel
theorem dX9_log_14 : decode cX9_log 14 = .ok (.invokestatic 120, 3) := by decide +kernel
theorem dX9_log_17 : decode cX9_log 17 = .ok (.ifCond .eq 19, 3) := by decide +kernel
theorem dX9_log_20 : decode cX9_log 20 = .ok (.iload_n 2, 1) := by decide +kernel
theorem dX9_log_21 : decode cX9_log 21 = .ok (.i2l, 1) := by decide +kernel
theorem dX9_log_22 : decode cX9_log 22 = .ok (.lconst 0, 1) := by decide +kernel
theorem dX9_log_23 : decode cX9_log 23 = .ok (.ldc2_w 327, 3) := by decide +kernel
theorem dX9_log_26 : decode cX9_log 26 = .ok (.invokestatic 120, 3) := by decide +kernel
theorem dX9_log_29 : decode cX9_log 29 = .ok (.ifCond .eq 7, 3) := by decide +kernel
theorem dX9_log_32 : decode cX9_log 32 = .ok (.iconst 0, 1) := by decide +kernel
theorem dX9_log_33 : decode cX9_log 33 = .ok (.goto 4, 3) := by decide +kernel
theorem dX9_log_36 : decode cX9_log 36 = .ok (.iconst 1, 1) := by decide +kernel
theorem dX9_log_37 : decode cX9_log 37 = .ok (.putfield 82, 3) := by decide +kernel
theorem dX9_log_40 : decode cX9_log 40 = .ok (.aload_n 0, 1) := by decide +kernel
theorem dX9_log_41 : decode cX9_log 41 = .ok (.getfield 82, 3) := by decide +kernel
theorem dX9_log_44 : decode cX9_log 44 = .ok (.iconst 1, 1) := by decide +kernel
theorem dX9_log_45 : decode cX9_log 45 = .ok (.if_icmp .ne 7, 3) := by decide +kernel
theorem dX9_log_48 : decode cX9_log 48 = .ok (.iconst 0, 1) := by decide +kernel
theorem dX9_log_49 : decode cX9_log 49 = .ok (.goto 16, 3) := by decide +kernel
theorem dX9_log_52 : decode cX9_log 52 = .ok (.aload_n 0, 1) := by decide +kernel
theorem dX9_log_53 : decode cX9_log 53 = .ok (.getfield 39, 3) := by decide +kernel
theorem dX9_log_56 : decode cX9_log 56 = .ok (.bipush 100, 2) := by decide +kernel
theorem dX9_log_58 : decode cX9_log 58 = .ok (.iconst 5, 1) := by decide +kernel
theorem dX9_log_59 : decode cX9_log 59 = .ok (.iload_n 1, 1) := by decide +kernel
theorem dX9_log_60 : decode cX9_log 60 = .ok (.imul, 1) := by decide +kernel
theorem dX9_log_61 : decode cX9_log 61 = .ok (.iadd, 1) := by decide +kernel
theorem dX9_log_62 : decode cX9_log 62 = .ok (.iload_n 2, 1) := by decide +kernel
theorem dX9_log_63 : decode cX9_log 63 = .ok (.iadd, 1) := by decide +kernel
theorem dX9_log_64 : decode cX9_log 64 = .ok (.iaload, 1) := by decide +kernel
theorem dX9_log_65 : decode cX9_log 65 = .ok (.ireturn, 1) := by decide +kernel
theorem dX9_costNow_0 : decode cX9_costNow 0 = .ok (.iconst 0, 1) := by decide +kernel
theorem dX9_costNow_1 : decode cX9_costNow 1 = .ok (.istore_n 1, 1) := by decide +kernel
theorem dX9_costNow_2 : decode cX9_costNow 2 = .ok (.iconst 0, 1) := by decide +kernel
theorem dX9_costNow_3 : decode cX9_costNow 3 = .ok (.istore_n 2, 1) := by decide +kernel
theorem dX9_costNow_4 : decode cX9_costNow 4 = .ok (.iload_n 2, 1) := by decide +kernel
theorem dX9_costNow_5 : decode cX9_costNow 5 = .ok (.aload_n 0, 1) := by decide +kernel
theorem dX9_costNow_6 : decode cX9_costNow 6 = .ok (.getfield 17, 3) := by decide +kernel
theorem dX9_costNow_9 : decode cX9_costNow 9 = .ok (.iconst 0, 1) := by decide +kernel
theorem dX9_costNow_10 : decode cX9_costNow 10 = .ok (.iaload, 1) := by decide +kernel
theorem dX9_costNow_11 : decode cX9_costNow 11 = .ok (.if_icmp .ge 31, 3) := by decide +kernel
theorem dX9_costNow_14 : decode cX9_costNow 14 = .ok (.iload_n 1, 1) := by decide +kernel
theorem dX9_costNow_15 : decode cX9_costNow 15 = .ok (.aload_n 0, 1) := by decide +kernel
theorem dX9_costNow_16 : decode cX9_costNow 16 = .ok (.getfield 39, 3) := by decide +kernel
theorem dX9_costNow_19 : decode cX9_costNow 19 = .ok (.bipush 50, 2) := by decide +kernel
theorem dX9_costNow_21 : decode cX9_costNow 21 = .ok (.iload_n 2, 1) := by decide +kernel
theorem dX9_costNow_22 : decode cX9_costNow 22 = .ok (.iadd, 1) := by decide +kernel
theorem dX9_costNow_23 : decode cX9_costNow 23 = .ok (.iaload, 1) := by decide +kernel
theorem dX9_costNow_24 : decode cX9_costNow 24 = .ok (.aload_n 0, 1) := by decide +kernel
theorem dX9_costNow_25 : decode cX9_costNow 25 = .ok (.getfield 39, 3) := by decide +kernel
theorem dX9_costNow_28 : decode cX9_costNow 28 = .ok (.bipush 8, 2) := by decide +kernel
theorem dX9_costNow_30 : decode cX9_costNow 30 = .ok (.iload_n 2, 1) := by decide +kernel
theorem dX9_costNow_31 : decode cX9_costNow 31 = .ok (.iadd, 1) := by decide +kernel
theorem dX9_costNow_32 : decode cX9_costNow 32 = .ok (.iaload, 1) := by decide +kernel
theorem dX9_costNow_33 : decode cX9_costNow 33 = .ok (.imul, 1) := by decide +kernel
theorem dX9_costNow_34 : decode cX9_costNow 34 = .ok (.iadd, 1) := by decide +kernel
theorem dX9_costNow_35 : decode cX9_costNow 35 = .ok (.istore_n 1, 1) := by decide +kernel
theorem dX9_costNow_36 : decode cX9_costNow 36 = .ok (.iinc 2 1, 3) := by decide +kernel
theorem dX9_costNow_39 : decode cX9_costNow 39 = .ok (.goto (-35), 3) := by decide +kernel
theorem dX9_costNow_42 : decode cX9_costNow 42 = .ok (.iload_n 1, 1) := by decide +kernel
theorem dX9_costNow_43 : decode cX9_costNow 43 = .ok (.ireturn, 1) := by decide +kernel
theorem dX9_cost_0 : decode cX9_cost 0 = .ok (.aload_n 0, 1) := by decide +kernel
theorem dX9_cost_1 : decode cX9_cost 1 = .ok (.iconst 0, 1) := by decide +kernel
theorem dX9_cost_2 : decode cX9_cost 2 = .ok (.putfield 82, 3) := by decide +kernel
theorem dX9_cost_5 : decode cX9_cost 5 = .ok (.aload_n 0, 1) := by decide +kernel
theorem dX9_cost_6 : decode cX9_cost 6 = .ok (.invokevirtual 329, 3) := by decide +kernel
theorem dX9_cost_9 : decode cX9_cost 9 = .ok (.ireturn, 1) := by decide +kernel
theorem dX9_bill_0 : decode cX9_bill 0 = .ok (.aload_n 0, 1) := by decide +kernel
theorem dX9_bill_1 : decode cX9_bill 1 = .ok (.iconst 0, 1) := by decide +kernel
theorem dX9_bill_2 : decode cX9_bill 2 = .ok (.putfield 82, 3) := by decide +kernel
theorem dX9_bill_5 : decode cX9_bill 5 = .ok (.aload_n 0, 1) := by decide +kernel
theorem dX9_bill_6 : decode cX9_bill 6 = .ok (.invokevirtual 329, 3) := by decide +kernel
theorem dX9_bill_9 : decode cX9_bill 9 = .ok (.i2l, 1) := by decide +kernel
theorem dX9_bill_10 : decode cX9_bill 10 = .ok (.iload_n 1, 1) := by decide +kernel
theorem dX9_bill_11 : decode cX9_bill 11 = .ok (.i2l, 1) := by decide +kernel
theorem dX9_bill_12 : decode cX9_bill 12 = .ok (.lmul, 1) := by decide +kernel
theorem dX9_bill_13 : decode cX9_bill 13 = .ok (.iload_n 2, 1) := by decide +kernel
theorem dX9_bill_14 : decode cX9_bill 14 = .ok (.i2l, 1) := by decide +kernel
theorem dX9_bill_15 : decode cX9_bill 15 = .ok (.ladd, 1) := by decide +kernel
theorem dX9_bill_16 : decode cX9_bill 16 = .ok (.lstore_n 3, 1) := by decide +kernel
theorem dX9_bill_17 : decode cX9_bill 17 = .ok (.lload_n 3, 1) := by decide +kernel
theorem dX9_bill_18 : decode cX9_bill 18 = .ok (.ldc2_w 334, 3) := by decide +kernel
theorem dX9_bill_21 : decode cX9_bill 21 = .ok (.ldc2_w 336, 3) := by decide +kernel
theorem dX9_bill_24 : decode cX9_bill 24 = .ok (.invokestatic 120, 3) := by decide +kernel
theorem dX9_bill_27 : decode cX9_bill 27 = .ok (.ifCond .eq 8, 3) := by decide +kernel
theorem dX9_bill_30 : decode cX9_bill 30 = .ok (.lload_n 3, 1) := by decide +kernel
theorem dX9_bill_31 : decode cX9_bill 31 = .ok (.l2i, 1) := by decide +kernel
theorem dX9_bill_32 : decode cX9_bill 32 = .ok (.goto 6, 3) := by decide +kernel
theorem dX9_bill_35 : decode cX9_bill 35 = .ok (.ldc_w 338, 3) := by decide +kernel
theorem dX9_bill_38 : decode cX9_bill 38 = .ok (.ireturn, 1) := by decide +kernel
theorem dX9_total_0 : decode cX9_total 0 = .ok (.aload_n 0, 1) := by decide +kernel
theorem dX9_total_1 : decode cX9_total 1 = .ok (.iconst 0, 1) := by decide +kernel
theorem dX9_total_2 : decode cX9_total 2 = .ok (.putfield 82, 3) := by decide +kernel
theorem dX9_total_5 : decode cX9_total 5 = .ok (.aload_n 0, 1) := by decide +kernel
theorem dX9_total_6 : decode cX9_total 6 = .ok (.invokevirtual 329, 3) := by decide +kernel
theorem dX9_total_9 : decode cX9_total 9 = .ok (.i2l, 1) := by decide +kernel
theorem dX9_total_10 : decode cX9_total 10 = .ok (.lstore_n 1, 1) := by decide +kernel
theorem dX9_total_11 : decode cX9_total 11 = .ok (.iconst 0, 1) := by decide +kernel
theorem dX9_total_12 : decode cX9_total 12 = .ok (.istore_n 3, 1) := by decide +kernel
theorem dX9_total_13 : decode cX9_total 13 = .ok (.iload_n 3, 1) := by decide +kernel
theorem dX9_total_14 : decode cX9_total 14 = .ok (.aload_n 0, 1) := by decide +kernel
theorem dX9_total_15 : decode cX9_total 15 = .ok (.getfield 13, 3) := by decide +kernel
theorem dX9_total_18 : decode cX9_total 18 = .ok (.iconst 0, 1) := by decide +kernel
theorem dX9_total_19 : decode cX9_total 19 = .ok (.iaload, 1) := by decide +kernel
theorem dX9_total_20 : decode cX9_total 20 = .ok (.if_icmp .ge 33, 3) := by decide +kernel
theorem dX9_total_23 : decode cX9_total 23 = .ok (.lload_n 1, 1) := by decide +kernel
theorem dX9_total_24 : decode cX9_total 24 = .ok (.ldc2_w 339, 3) := by decide +kernel
theorem dX9_total_27 : decode cX9_total 27 = .ok (.aload_n 0, 1) := by decide +kernel
theorem dX9_total_28 : decode cX9_total 28 = .ok (.getfield 39, 3) := by decide +kernel
theorem dX9_total_31 : decode cX9_total 31 = .ok (.bipush 50, 2) := by decide +kernel
theorem dX9_total_33 : decode cX9_total 33 = .ok (.aload_n 0, 1) := by decide +kernel
theorem dX9_total_34 : decode cX9_total 34 = .ok (.getfield 17, 3) := by decide +kernel
theorem dX9_total_37 : decode cX9_total 37 = .ok (.iconst 0, 1) := by decide +kernel
theorem dX9_total_38 : decode cX9_total 38 = .ok (.iaload, 1) := by decide +kernel
theorem dX9_total_39 : decode cX9_total 39 = .ok (.iadd, 1) := by decide +kernel
theorem dX9_total_40 : decode cX9_total 40 = .ok (.iload_n 3, 1) := by decide +kernel
theorem dX9_total_41 : decode cX9_total 41 = .ok (.iadd, 1) := by decide +kernel
theorem dX9_total_42 : decode cX9_total 42 = .ok (.iaload, 1) := by decide +kernel
theorem dX9_total_43 : decode cX9_total 43 = .ok (.i2l, 1) := by decide +kernel
theorem dX9_total_44 : decode cX9_total 44 = .ok (.lmul, 1) := by decide +kernel
theorem dX9_total_45 : decode cX9_total 45 = .ok (.ladd, 1) := by decide +kernel
theorem dX9_total_46 : decode cX9_total 46 = .ok (.lstore_n 1, 1) := by decide +kernel
theorem dX9_total_47 : decode cX9_total 47 = .ok (.iinc 3 1, 3) := by decide +kernel
theorem dX9_total_50 : decode cX9_total 50 = .ok (.goto (-37), 3) := by decide +kernel
theorem dX9_total_53 : decode cX9_total 53 = .ok (.lload_n 1, 1) := by decide +kernel
theorem dX9_total_54 : decode cX9_total 54 = .ok (.lreturn, 1) := by decide +kernel
theorem dX9_proof_0 : decode cX9_proof 0 = .ok (.aload_n 0, 1) := by decide +kernel
theorem dX9_proof_1 : decode cX9_proof 1 = .ok (.iconst 0, 1) := by decide +kernel
theorem dX9_proof_2 : decode cX9_proof 2 = .ok (.putfield 82, 3) := by decide +kernel
theorem dX9_proof_5 : decode cX9_proof 5 = .ok (.aload_n 0, 1) := by decide +kernel
theorem dX9_proof_6 : decode cX9_proof 6 = .ok (.invokevirtual 242, 3) := by decide +kernel
theorem dX9_proof_9 : decode cX9_proof 9 = .ok (.lconst 0, 1) := by decide +kernel
theorem dX9_proof_10 : decode cX9_proof 10 = .ok (.lstore_n 1, 1) := by decide +kernel
theorem dX9_proof_11 : decode cX9_proof 11 = .ok (.iconst 0, 1) := by decide +kernel
theorem dX9_proof_12 : decode cX9_proof 12 = .ok (.istore_n 3, 1) := by decide +kernel
theorem dX9_proof_13 : decode cX9_proof 13 = .ok (.iload_n 3, 1) := by decide +kernel
theorem dX9_proof_14 : decode cX9_proof 14 = .ok (.aload_n 0, 1) := by decide +kernel
theorem dX9_proof_15 : decode cX9_proof 15 = .ok (.getfield 13, 3) := by decide +kernel
theorem dX9_proof_18 : decode cX9_proof 18 = .ok (.iconst 0, 1) := by decide +kernel
theorem dX9_proof_19 : decode cX9_proof 19 = .ok (.iaload, 1) := by decide +kernel
theorem dX9_proof_20 : decode cX9_proof 20 = .ok (.if_icmp .ge 29, 3) := by decide +kernel
theorem dX9_proof_23 : decode cX9_proof 23 = .ok (.lload_n 1, 1) := by decide +kernel
theorem dX9_proof_24 : decode cX9_proof 24 = .ok (.aload_n 0, 1) := by decide +kernel
theorem dX9_proof_25 : decode cX9_proof 25 = .ok (.getfield 39, 3) := by decide +kernel
theorem dX9_proof_28 : decode cX9_proof 28 = .ok (.iconst 0, 1) := by decide +kernel
theorem dX9_proof_29 : decode cX9_proof 29 = .ok (.iload_n 3, 1) := by decide +kernel
theorem dX9_proof_30 : decode cX9_proof 30 = .ok (.iadd, 1) := by decide +kernel
theorem dX9_proof_31 : decode cX9_proof 31 = .ok (.iaload, 1) := by decide +kernel
theorem dX9_proof_32 : decode cX9_proof 32 = .ok (.i2l, 1) := by decide +kernel
theorem dX9_proof_33 : decode cX9_proof 33 = .ok (.aload_n 0, 1) := by decide +kernel
theorem dX9_proof_34 : decode cX9_proof 34 = .ok (.getfield 61, 3) := by decide +kernel
theorem dX9_proof_37 : decode cX9_proof 37 = .ok (.iload_n 3, 1) := by decide +kernel
theorem dX9_proof_38 : decode cX9_proof 38 = .ok (.iaload, 1) := by decide +kernel
theorem dX9_proof_39 : decode cX9_proof 39 = .ok (.i2l, 1) := by decide +kernel
theorem dX9_proof_40 : decode cX9_proof 40 = .ok (.lmul, 1) := by decide +kernel
theorem dX9_proof_41 : decode cX9_proof 41 = .ok (.lsub, 1) := by decide +kernel
theorem dX9_proof_42 : decode cX9_proof 42 = .ok (.lstore_n 1, 1) := by decide +kernel
theorem dX9_proof_43 : decode cX9_proof 43 = .ok (.iinc 3 1, 3) := by decide +kernel
theorem dX9_proof_46 : decode cX9_proof 46 = .ok (.goto (-33), 3) := by decide +kernel
theorem dX9_proof_49 : decode cX9_proof 49 = .ok (.iconst 0, 1) := by decide +kernel
theorem dX9_proof_50 : decode cX9_proof 50 = .ok (.istore_n 3, 1) := by decide +kernel
theorem dX9_proof_51 : decode cX9_proof 51 = .ok (.iload_n 3, 1) := by decide +kernel
theorem dX9_proof_52 : decode cX9_proof 52 = .ok (.aload_n 0, 1) := by decide +kernel
theorem dX9_proof_53 : decode cX9_proof 53 = .ok (.getfield 17, 3) := by decide +kernel
theorem dX9_proof_56 : decode cX9_proof 56 = .ok (.iconst 0, 1) := by decide +kernel
theorem dX9_proof_57 : decode cX9_proof 57 = .ok (.iaload, 1) := by decide +kernel
theorem dX9_proof_58 : decode cX9_proof 58 = .ok (.if_icmp .ge 41, 3) := by decide +kernel
theorem dX9_proof_61 : decode cX9_proof 61 = .ok (.lload_n 1, 1) := by decide +kernel
theorem dX9_proof_62 : decode cX9_proof 62 = .ok (.aload_n 0, 1) := by decide +kernel
theorem dX9_proof_63 : decode cX9_proof 63 = .ok (.iload_n 3, 1) := by decide +kernel
theorem dX9_proof_64 : decode cX9_proof 64 = .ok (.invokevirtual 235, 3) := by decide +kernel
theorem dX9_proof_67 : decode cX9_proof 67 = .ok (.ifCond .ge 23, 3) := by decide +kernel
theorem dX9_proof_70 : decode cX9_proof 70 = .ok (.aload_n 0, 1) := by decide +kernel
theorem dX9_proof_71 : decode cX9_proof 71 = .ok (.iload_n 3, 1) := by decide +kernel
theorem dX9_proof_72 : decode cX9_proof 72 = .ok (.invokevirtual 235, 3) := by decide +kernel
theorem dX9_proof_75 : decode cX9_proof 75 = .ok (.i2l, 1) := by decide +kernel
theorem dX9_proof_76 : decode cX9_proof 76 = .ok (.aload_n 0, 1) := by decide +kernel
theorem dX9_proof_77 : decode cX9_proof 77 = .ok (.getfield 39, 3) := by decide +kernel
theorem dX9_proof_80 : decode cX9_proof 80 = .ok (.bipush 24, 2) := by decide +kernel
theorem dX9_proof_82 : decode cX9_proof 82 = .ok (.iload_n 3, 1) := by decide +kernel
theorem dX9_proof_83 : decode cX9_proof 83 = .ok (.iadd, 1) := by decide +kernel
theorem dX9_proof_84 : decode cX9_proof 84 = .ok (.iaload, 1) := by decide +kernel
theorem dX9_proof_85 : decode cX9_proof 85 = .ok (.i2l, 1) := by decide +kernel
theorem dX9_proof_86 : decode cX9_proof 86 = .ok (.lmul, 1) := by decide +kernel
theorem dX9_proof_87 : decode cX9_proof 87 = .ok (.goto 4, 3) := by decide +kernel
theorem dX9_proof_90 : decode cX9_proof 90 = .ok (.lconst 0, 1) := by decide +kernel
theorem dX9_proof_91 : decode cX9_proof 91 = .ok (.ladd, 1) := by decide +kernel
theorem dX9_proof_92 : decode cX9_proof 92 = .ok (.lstore_n 1, 1) := by decide +kernel
theorem dX9_proof_93 : decode cX9_proof 93 = .ok (.iinc 3 1, 3) := by decide +kernel
theorem dX9_proof_96 : decode cX9_proof 96 = .ok (.goto (-45), 3) := by decide +kernel
theorem dX9_proof_99 : decode cX9_proof 99 = .ok (.lload_n 1, 1) := by decide +kernel
theorem dX9_proof_100 : decode cX9_proof 100 = .ok (.lreturn, 1) := by decide +kernel
theorem dX9_allLack_0 : decode cX9_allLack 0 = .ok (.iconst 0, 1) := by decide +kernel
theorem dX9_allLack_1 : decode cX9_allLack 1 = .ok (.istore_n 1, 1) := by decide +kernel
theorem dX9_allLack_2 : decode cX9_allLack 2 = .ok (.iconst 0, 1) := by decide +kernel
theorem dX9_allLack_3 : decode cX9_allLack 3 = .ok (.istore_n 2, 1) := by decide +kernel
theorem dX9_allLack_4 : decode cX9_allLack 4 = .ok (.iload_n 2, 1) := by decide +kernel
theorem dX9_allLack_5 : decode cX9_allLack 5 = .ok (.aload_n 0, 1) := by decide +kernel
theorem dX9_allLack_6 : decode cX9_allLack 6 = .ok (.getfield 13, 3) := by decide +kernel
theorem dX9_allLack_9 : decode cX9_allLack 9 = .ok (.iconst 0, 1) := by decide +kernel
theorem dX9_allLack_10 : decode cX9_allLack 10 = .ok (.iaload, 1) := by decide +kernel
theorem dX9_allLack_11 : decode cX9_allLack 11 = .ok (.if_icmp .ge 17, 3) := by decide +kernel
theorem dX9_allLack_14 : decode cX9_allLack 14 = .ok (.iload_n 1, 1) := by decide +kernel
theorem dX9_allLack_15 : decode cX9_allLack 15 = .ok (.aload_n 0, 1) := by decide +kernel
theorem dX9_allLack_16 : decode cX9_allLack 16 = .ok (.iload_n 2, 1) := by decide +kernel
theorem dX9_allLack_17 : decode cX9_allLack 17 = .ok (.invokevirtual 259, 3) := by decide +kernel
theorem dX9_allLack_20 : decode cX9_allLack 20 = .ok (.iadd, 1) := by decide +kernel
theorem dX9_allLack_21 : decode cX9_allLack 21 = .ok (.istore_n 1, 1) := by decide +kernel
theorem dX9_allLack_22 : decode cX9_allLack 22 = .ok (.iinc 2 1, 3) := by decide +kernel
theorem dX9_allLack_25 : decode cX9_allLack 25 = .ok (.goto (-21), 3) := by decide +kernel
theorem dX9_allLack_28 : decode cX9_allLack 28 = .ok (.iload_n 1, 1) := by decide +kernel
theorem dX9_allLack_29 : decode cX9_allLack 29 = .ok (.ireturn, 1) := by decide +kernel
theorem dX9_lack_0 : decode cX9_lack 0 = .ok (.aload_n 0, 1) := by decide +kernel
theorem dX9_lack_1 : decode cX9_lack 1 = .ok (.iconst 0, 1) := by decide +kernel
theorem dX9_lack_2 : decode cX9_lack 2 = .ok (.putfield 82, 3) := by decide +kernel
theorem dX9_lack_5 : decode cX9_lack 5 = .ok (.iload_n 1, 1) := by decide +kernel
theorem dX9_lack_6 : decode cX9_lack 6 = .ok (.i2l, 1) := by decide +kernel
theorem dX9_lack_7 : decode cX9_lack 7 = .ok (.lconst 0, 1) := by decide +kernel
theorem dX9_lack_8 : decode cX9_lack 8 = .ok (.ldc2_w 341, 3) := by decide +kernel
theorem dX9_lack_11 : decode cX9_lack 11 = .ok (.invokestatic 120, 3) := by decide +kernel
theorem dX9_lack_14 : decode cX9_lack 14 = .ok (.ifCond .ne 5, 3) := by decide +kernel
theorem dX9_lack_17 : decode cX9_lack 17 = .ok (.iconst (-1), 1) := by decide +kernel
theorem dX9_lack_18 : decode cX9_lack 18 = .ok (.ireturn, 1) := by decide +kernel
theorem dX9_lack_19 : decode cX9_lack 19 = .ok (.iconst 0, 1) := by decide +kernel
theorem dX9_lack_20 : decode cX9_lack 20 = .ok (.istore_n 2, 1) := by decide +kernel
theorem dX9_lack_21 : decode cX9_lack 21 = .ok (.bipush (-2), 2) := by decide +kernel
theorem dX9_lack_23 : decode cX9_lack 23 = .ok (.istore_n 3, 1) := by decide +kernel
theorem dX9_lack_24 : decode cX9_lack 24 = .ok (.aload_n 0, 1) := by decide +kernel
theorem dX9_lack_25 : decode cX9_lack 25 = .ok (.getfield 13, 3) := by decide +kernel
theorem dX9_lack_28 : decode cX9_lack 28 = .ok (.iconst 0, 1) := by decide +kernel
theorem dX9_lack_29 : decode cX9_lack 29 = .ok (.iaload, 1) := by decide +kernel
theorem dX9_lack_30 : decode cX9_lack 30 = .ok (.iconst 1, 1) := by decide +kernel
theorem dX9_lack_31 : decode cX9_lack 31 = .ok (.isub, 1) := by decide +kernel
theorem dX9_lack_32 : decode cX9_lack 32 = .ok (.istore 4, 2) := by decide +kernel
theorem dX9_lack_34 : decode cX9_lack 34 = .ok (.iload 4, 2) := by decide +kernel
theorem dX9_lack_36 : decode cX9_lack 36 = .ok (.ifCond .lt 48, 3) := by decide +kernel
theorem dX9_lack_39 : decode cX9_lack 39 = .ok (.iload_n 1, 1) := by decide +kernel
theorem dX9_lack_40 : decode cX9_lack 40 = .ok (.iconst 2, 1) := by decide +kernel
theorem dX9_lack_41 : decode cX9_lack 41 = .ok (.if_icmp .ge 12, 3) := by decide +kernel
theorem dX9_lack_44 : decode cX9_lack 44 = .ok (.aload_n 0, 1) := by decide +kernel
theorem dX9_lack_45 : decode cX9_lack 45 = .ok (.iload 4, 2) := by decide +kernel
theorem dX9_lack_47 : decode cX9_lack 47 = .ok (.invokevirtual 259, 3) := by decide +kernel
theorem dX9_lack_50 : decode cX9_lack 50 = .ok (.goto 9, 3) := by decide +kernel
theorem dX9_lack_53 : decode cX9_lack 53 = .ok (.aload_n 0, 1) := by decide +kernel
theorem dX9_lack_54 : decode cX9_lack 54 = .ok (.iload 4, 2) := by decide +kernel
theorem dX9_lack_56 : decode cX9_lack 56 = .ok (.invokevirtual 262, 3) := by decide +kernel
theorem dX9_lack_59 : decode cX9_lack 59 = .ok (.istore 5, 2) := by decide +kernel
theorem dX9_lack_61 : decode cX9_lack 61 = .ok (.iload_n 2, 1) := by decide +kernel
theorem dX9_lack_62 : decode cX9_lack 62 = .ok (.iload 5, 2) := by decide +kernel
theorem dX9_lack_64 : decode cX9_lack 64 = .ok (.iadd, 1) := by decide +kernel
theorem dX9_lack_65 : decode cX9_lack 65 = .ok (.istore_n 2, 1) := by decide +kernel
theorem dX9_lack_66 : decode cX9_lack 66 = .ok (.iload 5, 2) := by decide +kernel
theorem dX9_lack_68 : decode cX9_lack 68 = .ok (.ifCond .le 8, 3) := by decide +kernel
theorem dX9_lack_71 : decode cX9_lack 71 = .ok (.iload 4, 2) := by decide +kernel
theorem dX9_lack_73 : decode cX9_lack 73 = .ok (.goto 4, 3) := by decide +kernel
theorem dX9_lack_76 : decode cX9_lack 76 = .ok (.iload_n 3, 1) := by decide +kernel
theorem dX9_lack_77 : decode cX9_lack 77 = .ok (.istore_n 3, 1) := by decide +kernel
theorem dX9_lack_78 : decode cX9_lack 78 = .ok (.iinc 4 (-1), 3) := by decide +kernel
theorem dX9_lack_81 : decode cX9_lack 81 = .ok (.goto (-47), 3) := by decide +kernel
theorem dX9_lack_84 : decode cX9_lack 84 = .ok (.iload_n 1, 1) := by decide +kernel
theorem dX9_lack_85 : decode cX9_lack 85 = .ok (.iconst 2, 1) := by decide +kernel
theorem dX9_lack_86 : decode cX9_lack 86 = .ok (.irem, 1) := by decide +kernel
theorem dX9_lack_87 : decode cX9_lack 87 = .ok (.ifCond .ne 7, 3) := by decide +kernel
theorem dX9_lack_90 : decode cX9_lack 90 = .ok (.iload_n 2, 1) := by decide +kernel
theorem dX9_lack_91 : decode cX9_lack 91 = .ok (.goto 4, 3) := by decide +kernel
theorem dX9_lack_94 : decode cX9_lack 94 = .ok (.iload_n 3, 1) := by decide +kernel
theorem dX9_lack_95 : decode cX9_lack 95 = .ok (.ireturn, 1) := by decide +kernel
theorem dX9_unit_0 : decode cX9_unit 0 = .ok (.aload_n 0, 1) := by decide +kernel
theorem dX9_unit_1 : decode cX9_unit 1 = .ok (.iconst 0, 1) := by decide +kernel
theorem dX9_unit_2 : decode cX9_unit 2 = .ok (.putfield 82, 3) := by decide +kernel
theorem dX9_unit_5 : decode cX9_unit 5 = .ok (.aload_n 0, 1) := by decide +kernel
theorem dX9_unit_6 : decode cX9_unit 6 = .ok (.iload_n 1, 1) := by decide +kernel
theorem dX9_unit_7 : decode cX9_unit 7 = .ok (.invokevirtual 251, 3) := by decide +kernel
theorem dX9_unit_10 : decode cX9_unit 10 = .ok (.ifCond .eq 18, 3) := by decide +kernel
theorem dX9_unit_13 : decode cX9_unit 13 = .ok (.aload_n 0, 1) := by decide +kernel
theorem dX9_unit_14 : decode cX9_unit 14 = .ok (.iload_n 2, 1) := by decide +kernel
theorem dX9_unit_15 : decode cX9_unit 15 = .ok (.invokevirtual 251, 3) := by decide +kernel
theorem dX9_unit_18 : decode cX9_unit 18 = .ok (.ifCond .eq 10, 3) := by decide +kernel
theorem dX9_unit_21 : decode cX9_unit 21 = .ok (.aload_n 0, 1) := by decide +kernel
theorem dX9_unit_22 : decode cX9_unit 22 = .ok (.invokevirtual 316, 3) := by decide +kernel
theorem dX9_unit_25 : decode cX9_unit 25 = .ok (.ifCond .ne 7, 3) := by decide +kernel
theorem dX9_unit_28 : decode cX9_unit 28 = .ok (.ldc_w 338, 3) := by decide +kernel
theorem dX9_unit_31 : decode cX9_unit 31 = .ok (.ireturn, 1) := by decide +kernel
theorem dX9_unit_32 : decode cX9_unit 32 = .ok (.iconst 0, 1) := by decide +kernel
theorem dX9_unit_33 : decode cX9_unit 33 = .ok (.istore_n 3, 1) := by decide +kernel
theorem dX9_unit_34 : decode cX9_unit 34 = .ok (.iload_n 3, 1) := by decide +kernel
theorem dX9_unit_35 : decode cX9_unit 35 = .ok (.bipush 8, 2) := by decide +kernel
theorem dX9_unit_37 : decode cX9_unit 37 = .ok (.if_icmp .ge 26, 3) := by decide +kernel
theorem dX9_unit_40 : decode cX9_unit 40 = .ok (.aload_n 0, 1) := by decide +kernel
theorem dX9_unit_41 : decode cX9_unit 41 = .ok (.getfield 73, 3) := by decide +kernel
theorem dX9_unit_44 : decode cX9_unit 44 = .ok (.iload_n 3, 1) := by decide +kernel
theorem dX9_unit_45 : decode cX9_unit 45 = .ok (.iload_n 3, 1) := by decide +kernel
theorem dX9_unit_46 : decode cX9_unit 46 = .ok (.iload_n 1, 1) := by decide +kernel
theorem dX9_unit_47 : decode cX9_unit 47 = .ok (.if_icmp .ne 7, 3) := by decide +kernel
theorem dX9_unit_50 : decode cX9_unit 50 = .ok (.iconst 0, 1) := by decide +kernel
theorem dX9_unit_51 : decode cX9_unit 51 = .ok (.goto 5, 3) := by decide +kernel
theorem dX9_unit_54 : decode cX9_unit 54 = .ok (.ldc 221, 2) := by decide +kernel
theorem dX9_unit_56 : decode cX9_unit 56 = .ok (.iastore, 1) := by decide +kernel
theorem dX9_unit_57 : decode cX9_unit 57 = .ok (.iinc 3 1, 3) := by decide +kernel
theorem dX9_unit_60 : decode cX9_unit 60 = .ok (.goto (-26), 3) := by decide +kernel
theorem dX9_unit_63 : decode cX9_unit 63 = .ok (.iconst 0, 1) := by decide +kernel
theorem dX9_unit_64 : decode cX9_unit 64 = .ok (.istore_n 3, 1) := by decide +kernel
theorem dX9_unit_65 : decode cX9_unit 65 = .ok (.iload_n 3, 1) := by decide +kernel
theorem dX9_unit_66 : decode cX9_unit 66 = .ok (.aload_n 0, 1) := by decide +kernel
theorem dX9_unit_67 : decode cX9_unit 67 = .ok (.getfield 13, 3) := by decide +kernel
theorem dX9_unit_70 : decode cX9_unit 70 = .ok (.iconst 0, 1) := by decide +kernel
theorem dX9_unit_71 : decode cX9_unit 71 = .ok (.iaload, 1) := by decide +kernel
theorem dX9_unit_72 : decode cX9_unit 72 = .ok (.if_icmp .ge 122, 3) := by decide +kernel
theorem dX9_unit_75 : decode cX9_unit 75 = .ok (.iconst 0, 1) := by decide +kernel
theorem dX9_unit_76 : decode cX9_unit 76 = .ok (.istore 4, 2) := by decide +kernel
theorem dX9_unit_78 : decode cX9_unit 78 = .ok (.iload 4, 2) := by decide +kernel
theorem dX9_unit_80 : decode cX9_unit 80 = .ok (.aload_n 0, 1) := by decide +kernel
theorem dX9_unit_81 : decode cX9_unit 81 = .ok (.getfield 17, 3) := by decide +kernel
theorem dX9_unit_84 : decode cX9_unit 84 = .ok (.iconst 0, 1) := by decide +kernel
theorem dX9_unit_85 : decode cX9_unit 85 = .ok (.iaload, 1) := by decide +kernel
theorem dX9_unit_86 : decode cX9_unit 86 = .ok (.if_icmp .ge 102, 3) := by decide +kernel
theorem dX9_unit_89 : decode cX9_unit 89 = .ok (.aload_n 0, 1) := by decide +kernel
theorem dX9_unit_90 : decode cX9_unit 90 = .ok (.getfield 39, 3) := by decide +kernel
theorem dX9_unit_93 : decode cX9_unit 93 = .ok (.bipush 50, 2) := by decide +kernel
theorem dX9_unit_95 : decode cX9_unit 95 = .ok (.iload 4, 2) := by decide +kernel
theorem dX9_unit_97 : decode cX9_unit 97 = .ok (.iadd, 1) := by decide +kernel
theorem dX9_unit_98 : decode cX9_unit 98 = .ok (.iaload, 1) := by decide +kernel
theorem dX9_unit_99 : decode cX9_unit 99 = .ok (.aload_n 0, 1) := by decide +kernel
theorem dX9_unit_100 : decode cX9_unit 100 = .ok (.getfield 39, 3) := by decide +kernel
theorem dX9_unit_103 : decode cX9_unit 103 = .ok (.bipush 24, 2) := by decide +kernel
theorem dX9_unit_105 : decode cX9_unit 105 = .ok (.iload 4, 2) := by decide +kernel
theorem dX9_unit_107 : decode cX9_unit 107 = .ok (.iadd, 1) := by decide +kernel
theorem dX9_unit_108 : decode cX9_unit 108 = .ok (.iaload, 1) := by decide +kernel
theorem dX9_unit_109 : decode cX9_unit 109 = .ok (.if_icmp .ge 31, 3) := by decide +kernel
theorem dX9_unit_112 : decode cX9_unit 112 = .ok (.aload_n 0, 1) := by decide +kernel
theorem dX9_unit_113 : decode cX9_unit 113 = .ok (.aload_n 0, 1) := by decide +kernel
theorem dX9_unit_114 : decode cX9_unit 114 = .ok (.getfield 27, 3) := by decide +kernel
theorem dX9_unit_117 : decode cX9_unit 117 = .ok (.iload 4, 2) := by decide +kernel
theorem dX9_unit_119 : decode cX9_unit 119 = .ok (.iaload, 1) := by decide +kernel
theorem dX9_unit_120 : decode cX9_unit 120 = .ok (.aload_n 0, 1) := by decide +kernel
theorem dX9_unit_121 : decode cX9_unit 121 = .ok (.getfield 30, 3) := by decide +kernel
theorem dX9_unit_124 : decode cX9_unit 124 = .ok (.iload 4, 2) := by decide +kernel
theorem dX9_unit_126 : decode cX9_unit 126 = .ok (.iaload, 1) := by decide +kernel
theorem dX9_unit_127 : decode cX9_unit 127 = .ok (.aload_n 0, 1) := by decide +kernel
theorem dX9_unit_128 : decode cX9_unit 128 = .ok (.getfield 39, 3) := by decide +kernel
theorem dX9_unit_131 : decode cX9_unit 131 = .ok (.bipush 8, 2) := by decide +kernel
theorem dX9_unit_133 : decode cX9_unit 133 = .ok (.iload 4, 2) := by decide +kernel
theorem dX9_unit_135 : decode cX9_unit 135 = .ok (.iadd, 1) := by decide +kernel
theorem dX9_unit_136 : decode cX9_unit 136 = .ok (.iaload, 1) := by decide +kernel
theorem dX9_unit_137 : decode cX9_unit 137 = .ok (.invokevirtual 343, 3) := by decide +kernel
theorem dX9_unit_140 : decode cX9_unit 140 = .ok (.aload_n 0, 1) := by decide +kernel
theorem dX9_unit_141 : decode cX9_unit 141 = .ok (.getfield 39, 3) := by decide +kernel
theorem dX9_unit_144 : decode cX9_unit 144 = .ok (.bipush 50, 2) := by decide +kernel
theorem dX9_unit_146 : decode cX9_unit 146 = .ok (.iload 4, 2) := by decide +kernel
theorem dX9_unit_148 : decode cX9_unit 148 = .ok (.iadd, 1) := by decide +kernel
theorem dX9_unit_149 : decode cX9_unit 149 = .ok (.iaload, 1) := by decide +kernel
theorem dX9_unit_150 : decode cX9_unit 150 = .ok (.ifCond .le 32, 3) := by decide +kernel
theorem dX9_unit_153 : decode cX9_unit 153 = .ok (.aload_n 0, 1) := by decide +kernel
theorem dX9_unit_154 : decode cX9_unit 154 = .ok (.aload_n 0, 1) := by decide +kernel
theorem dX9_unit_155 : decode cX9_unit 155 = .ok (.getfield 30, 3) := by decide +kernel
theorem dX9_unit_158 : decode cX9_unit 158 = .ok (.iload 4, 2) := by decide +kernel
theorem dX9_unit_160 : decode cX9_unit 160 = .ok (.iaload, 1) := by decide +kernel
theorem dX9_unit_161 : decode cX9_unit 161 = .ok (.aload_n 0, 1) := by decide +kernel
theorem dX9_unit_162 : decode cX9_unit 162 = .ok (.getfield 27, 3) := by decide +kernel
theorem dX9_unit_165 : decode cX9_unit 165 = .ok (.iload 4, 2) := by decide +kernel
theorem dX9_unit_167 : decode cX9_unit 167 = .ok (.iaload, 1) := by decide +kernel
theorem dX9_unit_168 : decode cX9_unit 168 = .ok (.aload_n 0, 1) := by decide +kernel
theorem dX9_unit_169 : decode cX9_unit 169 = .ok (.getfield 39, 3) := by decide +kernel
theorem dX9_unit_172 : decode cX9_unit 172 = .ok (.bipush 8, 2) := by decide +kernel
theorem dX9_unit_174 : decode cX9_unit 174 = .ok (.iload 4, 2) := by decide +kernel
theorem dX9_unit_176 : decode cX9_unit 176 = .ok (.iadd, 1) := by decide +kernel
theorem dX9_unit_177 : decode cX9_unit 177 = .ok (.iaload, 1) := by decide +kernel
theorem dX9_unit_178 : decode cX9_unit 178 = .ok (.ineg, 1) := by decide +kernel
theorem dX9_unit_179 : decode cX9_unit 179 = .ok (.invokevirtual 343, 3) := by decide +kernel
theorem dX9_unit_182 : decode cX9_unit 182 = .ok (.iinc 4 1, 3) := by decide +kernel
theorem dX9_unit_185 : decode cX9_unit 185 = .ok (.goto (-107), 3) := by decide +kernel
theorem dX9_unit_188 : decode cX9_unit 188 = .ok (.iinc 3 1, 3) := by decide +kernel
theorem dX9_unit_191 : decode cX9_unit 191 = .ok (.goto (-126), 3) := by decide +kernel
theorem dX9_unit_194 : decode cX9_unit 194 = .ok (.aload_n 0, 1) := by decide +kernel
theorem dX9_unit_195 : decode cX9_unit 195 = .ok (.getfield 73, 3) := by decide +kernel
theorem dX9_unit_198 : decode cX9_unit 198 = .ok (.iload_n 2, 1) := by decide +kernel
theorem dX9_unit_199 : decode cX9_unit 199 = .ok (.iaload, 1) := by decide +kernel
theorem dX9_unit_200 : decode cX9_unit 200 = .ok (.ldc 221, 2) := by decide +kernel
theorem dX9_unit_202 : decode cX9_unit 202 = .ok (.if_icmp .ne 9, 3) := by decide +kernel
theorem dX9_unit_205 : decode cX9_unit 205 = .ok (.ldc_w 338, 3) := by decide +kernel
theorem dX9_unit_208 : decode cX9_unit 208 = .ok (.goto 9, 3) := by decide +kernel
theorem dX9_unit_211 : decode cX9_unit 211 = .ok (.aload_n 0, 1) := by decide +kernel
theorem dX9_unit_212 : decode cX9_unit 212 = .ok (.getfield 73, 3) := by decide +kernel
theorem dX9_unit_215 : decode cX9_unit 215 = .ok (.iload_n 2, 1) := by decide +kernel
theorem dX9_unit_216 : decode cX9_unit 216 = .ok (.iaload, 1) := by decide +kernel
theorem dX9_unit_217 : decode cX9_unit 217 = .ok (.ireturn, 1) := by decide +kernel
theorem dX9_cheaper_0 : decode cX9_cheaper 0 = .ok (.aload_n 0, 1) := by decide +kernel
theorem dX9_cheaper_1 : decode cX9_cheaper 1 = .ok (.getfield 73, 3) := by decide +kernel
theorem dX9_cheaper_4 : decode cX9_cheaper 4 = .ok (.iload_n 1, 1) := by decide +kernel
theorem dX9_cheaper_5 : decode cX9_cheaper 5 = .ok (.iaload, 1) := by decide +kernel
theorem dX9_cheaper_6 : decode cX9_cheaper 6 = .ok (.ldc 221, 2) := by decide +kernel
theorem dX9_cheaper_8 : decode cX9_cheaper 8 = .ok (.if_icmp .ge 34, 3) := by decide +kernel
theorem dX9_cheaper_11 : decode cX9_cheaper 11 = .ok (.aload_n 0, 1) := by decide +kernel
theorem dX9_cheaper_12 : decode cX9_cheaper 12 = .ok (.getfield 73, 3) := by decide +kernel
theorem dX9_cheaper_15 : decode cX9_cheaper 15 = .ok (.iload_n 1, 1) := by decide +kernel
theorem dX9_cheaper_16 : decode cX9_cheaper 16 = .ok (.iaload, 1) := by decide +kernel
theorem dX9_cheaper_17 : decode cX9_cheaper 17 = .ok (.iload_n 3, 1) := by decide +kernel
theorem dX9_cheaper_18 : decode cX9_cheaper 18 = .ok (.iadd, 1) := by decide +kernel
theorem dX9_cheaper_19 : decode cX9_cheaper 19 = .ok (.aload_n 0, 1) := by decide +kernel
theorem dX9_cheaper_20 : decode cX9_cheaper 20 = .ok (.getfield 73, 3) := by decide +kernel
theorem dX9_cheaper_23 : decode cX9_cheaper 23 = .ok (.iload_n 2, 1) := by decide +kernel
theorem dX9_cheaper_24 : decode cX9_cheaper 24 = .ok (.iaload, 1) := by decide +kernel
theorem dX9_cheaper_25 : decode cX9_cheaper 25 = .ok (.if_icmp .ge 17, 3) := by decide +kernel
theorem dX9_cheaper_28 : decode cX9_cheaper 28 = .ok (.aload_n 0, 1) := by decide +kernel
theorem dX9_cheaper_29 : decode cX9_cheaper 29 = .ok (.getfield 73, 3) := by decide +kernel
theorem dX9_cheaper_32 : decode cX9_cheaper 32 = .ok (.iload_n 2, 1) := by decide +kernel
theorem dX9_cheaper_33 : decode cX9_cheaper 33 = .ok (.aload_n 0, 1) := by decide +kernel
theorem dX9_cheaper_34 : decode cX9_cheaper 34 = .ok (.getfield 73, 3) := by decide +kernel
theorem dX9_cheaper_37 : decode cX9_cheaper 37 = .ok (.iload_n 1, 1) := by decide +kernel
theorem dX9_cheaper_38 : decode cX9_cheaper 38 = .ok (.iaload, 1) := by decide +kernel
theorem dX9_cheaper_39 : decode cX9_cheaper 39 = .ok (.iload_n 3, 1) := by decide +kernel
theorem dX9_cheaper_40 : decode cX9_cheaper 40 = .ok (.iadd, 1) := by decide +kernel
theorem dX9_cheaper_41 : decode cX9_cheaper 41 = .ok (.iastore, 1) := by decide +kernel
theorem dX9_cheaper_42 : decode cX9_cheaper 42 = .ok (.return_, 1) := by decide +kernel
theorem dX9_range_0 : decode cX9_range 0 = .ok (.aload_n 0, 1) := by decide +kernel
theorem dX9_range_1 : decode cX9_range 1 = .ok (.iconst 0, 1) := by decide +kernel
theorem dX9_range_2 : decode cX9_range 2 = .ok (.putfield 82, 3) := by decide +kernel
theorem dX9_range_5 : decode cX9_range 5 = .ok (.aload_n 0, 1) := by decide +kernel
theorem dX9_range_6 : decode cX9_range 6 = .ok (.iload_n 1, 1) := by decide +kernel
theorem dX9_range_7 : decode cX9_range 7 = .ok (.invokevirtual 347, 3) := by decide +kernel
theorem dX9_range_10 : decode cX9_range 10 = .ok (.ifCond .ne 5, 3) := by decide +kernel
theorem dX9_range_13 : decode cX9_range 13 = .ok (.iconst (-1), 1) := by decide +kernel
theorem dX9_range_14 : decode cX9_range 14 = .ok (.ireturn, 1) := by decide +kernel
theorem dX9_range_15 : decode cX9_range 15 = .ok (.aload_n 0, 1) := by decide +kernel
theorem dX9_range_16 : decode cX9_range 16 = .ok (.invokevirtual 316, 3) := by decide +kernel
theorem dX9_range_19 : decode cX9_range 19 = .ok (.ifCond .ne 6, 3) := by decide +kernel
theorem dX9_range_22 : decode cX9_range 22 = .ok (.bipush (-2), 2) := by decide +kernel
theorem dX9_range_24 : decode cX9_range 24 = .ok (.ireturn, 1) := by decide +kernel
theorem dX9_range_25 : decode cX9_range 25 = .ok (.aload_n 0, 1) := by decide +kernel
theorem dX9_range_26 : decode cX9_range 26 = .ok (.getfield 39, 3) := by decide +kernel
theorem dX9_range_29 : decode cX9_range 29 = .ok (.bipush 8, 2) := by decide +kernel
theorem dX9_range_31 : decode cX9_range 31 = .ok (.iload_n 1, 1) := by decide +kernel
theorem dX9_range_32 : decode cX9_range 32 = .ok (.iadd, 1) := by decide +kernel
theorem dX9_range_33 : decode cX9_range 33 = .ok (.iaload, 1) := by decide +kernel
theorem dX9_range_34 : decode cX9_range 34 = .ok (.istore_n 3, 1) := by decide +kernel
theorem dX9_range_35 : decode cX9_range 35 = .ok (.iconst (-1), 1) := by decide +kernel
theorem dX9_range_36 : decode cX9_range 36 = .ok (.istore 4, 2) := by decide +kernel
theorem dX9_range_38 : decode cX9_range 38 = .ok (.iconst 0, 1) := by decide +kernel
theorem dX9_range_39 : decode cX9_range 39 = .ok (.istore 5, 2) := by decide +kernel
theorem dX9_range_41 : decode cX9_range 41 = .ok (.iload 5, 2) := by decide +kernel
theorem dX9_range_43 : decode cX9_range 43 = .ok (.sipush 999, 3) := by decide +kernel
theorem dX9_range_46 : decode cX9_range 46 = .ok (.if_icmp .gt 54, 3) := by decide +kernel
theorem dX9_range_49 : decode cX9_range 49 = .ok (.iload 4, 2) := by decide +kernel
theorem dX9_range_51 : decode cX9_range 51 = .ok (.iconst (-1), 1) := by decide +kernel
theorem dX9_range_52 : decode cX9_range 52 = .ok (.if_icmp .ne 48, 3) := by decide +kernel
theorem dX9_range_55 : decode cX9_range 55 = .ok (.iload_n 2, 1) := by decide +kernel
theorem dX9_range_56 : decode cX9_range 56 = .ok (.ifCond .eq 12, 3) := by decide +kernel
theorem dX9_range_59 : decode cX9_range 59 = .ok (.sipush 999, 3) := by decide +kernel
theorem dX9_range_62 : decode cX9_range 62 = .ok (.iload 5, 2) := by decide +kernel
theorem dX9_range_64 : decode cX9_range 64 = .ok (.isub, 1) := by decide +kernel
theorem dX9_range_65 : decode cX9_range 65 = .ok (.goto 5, 3) := by decide +kernel
theorem dX9_range_68 : decode cX9_range 68 = .ok (.iload 5, 2) := by decide +kernel
theorem dX9_range_70 : decode cX9_range 70 = .ok (.istore 6, 2) := by decide +kernel
theorem dX9_range_72 : decode cX9_range 72 = .ok (.aload_n 0, 1) := by decide +kernel
theorem dX9_range_73 : decode cX9_range 73 = .ok (.getfield 39, 3) := by decide +kernel
theorem dX9_range_76 : decode cX9_range 76 = .ok (.bipush 8, 2) := by decide +kernel
theorem dX9_range_78 : decode cX9_range 78 = .ok (.iload_n 1, 1) := by decide +kernel
theorem dX9_range_79 : decode cX9_range 79 = .ok (.iadd, 1) := by decide +kernel
theorem dX9_range_80 : decode cX9_range 80 = .ok (.iload 6, 2) := by decide +kernel
theorem dX9_range_82 : decode cX9_range 82 = .ok (.iastore, 1) := by decide +kernel
theorem dX9_range_83 : decode cX9_range 83 = .ok (.aload_n 0, 1) := by decide +kernel
theorem dX9_range_84 : decode cX9_range 84 = .ok (.invokevirtual 316, 3) := by decide +kernel
theorem dX9_range_87 : decode cX9_range 87 = .ok (.ifCond .eq 7, 3) := by decide +kernel
theorem dX9_range_90 : decode cX9_range 90 = .ok (.iload 6, 2) := by decide +kernel
theorem dX9_range_92 : decode cX9_range 92 = .ok (.istore 4, 2) := by decide +kernel
theorem dX9_range_94 : decode cX9_range 94 = .ok (.iinc 5 1, 3) := by decide +kernel
theorem dX9_range_97 : decode cX9_range 97 = .ok (.goto (-56), 3) := by decide +kernel
theorem dX9_range_100 : decode cX9_range 100 = .ok (.aload_n 0, 1) := by decide +kernel
theorem dX9_range_101 : decode cX9_range 101 = .ok (.getfield 39, 3) := by decide +kernel
theorem dX9_range_104 : decode cX9_range 104 = .ok (.bipush 8, 2) := by decide +kernel
theorem dX9_range_106 : decode cX9_range 106 = .ok (.iload_n 1, 1) := by decide +kernel
theorem dX9_range_107 : decode cX9_range 107 = .ok (.iadd, 1) := by decide +kernel
theorem dX9_range_108 : decode cX9_range 108 = .ok (.iload_n 3, 1) := by decide +kernel
theorem dX9_range_109 : decode cX9_range 109 = .ok (.iastore, 1) := by decide +kernel
theorem dX9_range_110 : decode cX9_range 110 = .ok (.iload 4, 2) := by decide +kernel
theorem dX9_range_112 : decode cX9_range 112 = .ok (.ireturn, 1) := by decide +kernel
theorem dX9_tried_0 : decode cX9_tried 0 = .ok (.aload_n 0, 1) := by decide +kernel
theorem dX9_tried_1 : decode cX9_tried 1 = .ok (.iconst 0, 1) := by decide +kernel
theorem dX9_tried_2 : decode cX9_tried 2 = .ok (.putfield 82, 3) := by decide +kernel
theorem dX9_tried_5 : decode cX9_tried 5 = .ok (.iload_n 1, 1) := by decide +kernel
theorem dX9_tried_6 : decode cX9_tried 6 = .ok (.i2l, 1) := by decide +kernel
theorem dX9_tried_7 : decode cX9_tried 7 = .ok (.lconst 0, 1) := by decide +kernel
theorem dX9_tried_8 : decode cX9_tried 8 = .ok (.ldc2_w 307, 3) := by decide +kernel
theorem dX9_tried_11 : decode cX9_tried 11 = .ok (.invokestatic 120, 3) := by decide +kernel
theorem dX9_tried_14 : decode cX9_tried 14 = .ok (.ifCond .eq 53, 3) := by decide +kernel
theorem dX9_tried_17 : decode cX9_tried 17 = .ok (.iload_n 1, 1) := by decide +kernel
theorem dX9_tried_18 : decode cX9_tried 18 = .ok (.iconst 2, 1) := by decide +kernel
theorem dX9_tried_19 : decode cX9_tried 19 = .ok (.if_icmp .ge 26, 3) := by decide +kernel
theorem dX9_tried_22 : decode cX9_tried 22 = .ok (.aload_n 0, 1) := by decide +kernel
theorem dX9_tried_23 : decode cX9_tried 23 = .ok (.iload_n 2, 1) := by decide +kernel
theorem dX9_tried_24 : decode cX9_tried 24 = .ok (.invokevirtual 347, 3) := by decide +kernel
theorem dX9_tried_27 : decode cX9_tried 27 = .ok (.ifCond .eq 40, 3) := by decide +kernel
theorem dX9_tried_30 : decode cX9_tried 30 = .ok (.iload_n 3, 1) := by decide +kernel
theorem dX9_tried_31 : decode cX9_tried 31 = .ok (.i2l, 1) := by decide +kernel
theorem dX9_tried_32 : decode cX9_tried 32 = .ok (.lconst 0, 1) := by decide +kernel
theorem dX9_tried_33 : decode cX9_tried 33 = .ok (.ldc2_w 350, 3) := by decide +kernel
theorem dX9_tried_36 : decode cX9_tried 36 = .ok (.invokestatic 120, 3) := by decide +kernel
theorem dX9_tried_39 : decode cX9_tried 39 = .ok (.ifCond .eq 28, 3) := by decide +kernel
theorem dX9_tried_42 : decode cX9_tried 42 = .ok (.goto 27, 3) := by decide +kernel
theorem dX9_tried_45 : decode cX9_tried 45 = .ok (.aload_n 0, 1) := by decide +kernel
theorem dX9_tried_46 : decode cX9_tried 46 = .ok (.iload_n 2, 1) := by decide +kernel
theorem dX9_tried_47 : decode cX9_tried 47 = .ok (.invokevirtual 251, 3) := by decide +kernel
theorem dX9_tried_50 : decode cX9_tried 50 = .ok (.ifCond .eq 17, 3) := by decide +kernel
theorem dX9_tried_53 : decode cX9_tried 53 = .ok (.iload_n 3, 1) := by decide +kernel
theorem dX9_tried_54 : decode cX9_tried 54 = .ok (.i2l, 1) := by decide +kernel
theorem dX9_tried_55 : decode cX9_tried 55 = .ok (.ldc2_w 352, 3) := by decide +kernel
theorem dX9_tried_58 : decode cX9_tried 58 = .ok (.ldc2_w 350, 3) := by decide +kernel
theorem dX9_tried_61 : decode cX9_tried 61 = .ok (.invokestatic 120, 3) := by decide +kernel
theorem dX9_tried_64 : decode cX9_tried 64 = .ok (.ifCond .ne 5, 3) := by decide +kernel
theorem dX9_tried_67 : decode cX9_tried 67 = .ok (.iconst (-1), 1) := by decide +kernel
theorem dX9_tried_68 : decode cX9_tried 68 = .ok (.ireturn, 1) := by decide +kernel
theorem dX9_tried_69 : decode cX9_tried 69 = .ok (.iconst 0, 1) := by decide +kernel
theorem dX9_tried_70 : decode cX9_tried 70 = .ok (.istore 5, 2) := by decide +kernel
theorem dX9_tried_72 : decode cX9_tried 72 = .ok (.iload 5, 2) := by decide +kernel
theorem dX9_tried_74 : decode cX9_tried 74 = .ok (.sipush 180, 3) := by decide +kernel
theorem dX9_tried_77 : decode cX9_tried 77 = .ok (.if_icmp .ge 23, 3) := by decide +kernel
theorem dX9_tried_80 : decode cX9_tried 80 = .ok (.aload_n 0, 1) := by decide +kernel
theorem dX9_tried_81 : decode cX9_tried 81 = .ok (.getfield 52, 3) := by decide +kernel
theorem dX9_tried_84 : decode cX9_tried 84 = .ok (.iload 5, 2) := by decide +kernel
theorem dX9_tried_86 : decode cX9_tried 86 = .ok (.aload_n 0, 1) := by decide +kernel
theorem dX9_tried_87 : decode cX9_tried 87 = .ok (.getfield 39, 3) := by decide +kernel
theorem dX9_tried_90 : decode cX9_tried 90 = .ok (.iload 5, 2) := by decide +kernel
theorem dX9_tried_92 : decode cX9_tried 92 = .ok (.iaload, 1) := by decide +kernel
theorem dX9_tried_93 : decode cX9_tried 93 = .ok (.iastore, 1) := by decide +kernel
theorem dX9_tried_94 : decode cX9_tried 94 = .ok (.iinc 5 1, 3) := by decide +kernel
theorem dX9_tried_97 : decode cX9_tried 97 = .ok (.goto (-25), 3) := by decide +kernel
theorem dX9_tried_100 : decode cX9_tried 100 = .ok (.aload_n 0, 1) := by decide +kernel
theorem dX9_tried_101 : decode cX9_tried 101 = .ok (.getfield 39, 3) := by decide +kernel
theorem dX9_tried_104 : decode cX9_tried 104 = .ok (.iload_n 1, 1) := by decide +kernel
theorem dX9_tried_105 : decode cX9_tried 105 = .ok (.ifCond .ne 8, 3) := by decide +kernel
theorem dX9_tried_108 : decode cX9_tried 108 = .ok (.bipush 8, 2) := by decide +kernel
theorem dX9_tried_110 : decode cX9_tried 110 = .ok (.goto 14, 3) := by decide +kernel
theorem dX9_tried_113 : decode cX9_tried 113 = .ok (.iload_n 1, 1) := by decide +kernel
theorem dX9_tried_114 : decode cX9_tried 114 = .ok (.iconst 1, 1) := by decide +kernel
theorem dX9_tried_115 : decode cX9_tried 115 = .ok (.if_icmp .ne 8, 3) := by decide +kernel
theorem dX9_tried_118 : decode cX9_tried 118 = .ok (.bipush 24, 2) := by decide +kernel
theorem dX9_tried_120 : decode cX9_tried 120 = .ok (.goto 4, 3) := by decide +kernel
theorem dX9_tried_123 : decode cX9_tried 123 = .ok (.iconst 0, 1) := by decide +kernel
theorem dX9_tried_124 : decode cX9_tried 124 = .ok (.iload_n 2, 1) := by decide +kernel
theorem dX9_tried_125 : decode cX9_tried 125 = .ok (.iadd, 1) := by decide +kernel
theorem dX9_tried_126 : decode cX9_tried 126 = .ok (.iload_n 3, 1) := by decide +kernel
theorem dX9_tried_127 : decode cX9_tried 127 = .ok (.iastore, 1) := by decide +kernel
theorem dX9_tried_128 : decode cX9_tried 128 = .ok (.aload_n 0, 1) := by decide +kernel
theorem dX9_tried_129 : decode cX9_tried 129 = .ok (.invokevirtual 79, 3) := by decide +kernel
theorem dX9_tried_132 : decode cX9_tried 132 = .ok (.iconst 1, 1) := by decide +kernel
theorem dX9_tried_133 : decode cX9_tried 133 = .ok (.istore 5, 2) := by decide +kernel
theorem dX9_tried_135 : decode cX9_tried 135 = .ok (.iload 5, 2) := by decide +kernel
theorem dX9_tried_137 : decode cX9_tried 137 = .ok (.ifCond .eq 21, 3) := by decide +kernel
theorem dX9_tried_140 : decode cX9_tried 140 = .ok (.aload_n 0, 1) := by decide +kernel
theorem dX9_tried_141 : decode cX9_tried 141 = .ok (.invokevirtual 322, 3) := by decide +kernel
theorem dX9_tried_144 : decode cX9_tried 144 = .ok (.iconst (-1), 1) := by decide +kernel
theorem dX9_tried_145 : decode cX9_tried 145 = .ok (.if_icmp .eq 7, 3) := by decide +kernel
theorem dX9_tried_148 : decode cX9_tried 148 = .ok (.iconst 1, 1) := by decide +kernel
theorem dX9_tried_149 : decode cX9_tried 149 = .ok (.goto 4, 3) := by decide +kernel
theorem dX9_tried_152 : decode cX9_tried 152 = .ok (.iconst 0, 1) := by decide +kernel
theorem dX9_tried_153 : decode cX9_tried 153 = .ok (.istore 5, 2) := by decide +kernel
theorem dX9_tried_155 : decode cX9_tried 155 = .ok (.goto (-20), 3) := by decide +kernel
theorem dX9_tried_158 : decode cX9_tried 158 = .ok (.iload 4, 2) := by decide +kernel
theorem dX9_tried_160 : decode cX9_tried 160 = .ok (.ifCond .eq 10, 3) := by decide +kernel
theorem dX9_tried_163 : decode cX9_tried 163 = .ok (.aload_n 0, 1) := by decide +kernel
theorem dX9_tried_164 : decode cX9_tried 164 = .ok (.invokevirtual 354, 3) := by decide +kernel
theorem dX9_tried_167 : decode cX9_tried 167 = .ok (.goto 7, 3) := by decide +kernel
theorem dX9_tried_170 : decode cX9_tried 170 = .ok (.aload_n 0, 1) := by decide +kernel
theorem dX9_tried_171 : decode cX9_tried 171 = .ok (.invokevirtual 329, 3) := by decide +kernel
theorem dX9_tried_174 : decode cX9_tried 174 = .ok (.istore 6, 2) := by decide +kernel
theorem dX9_tried_176 : decode cX9_tried 176 = .ok (.iconst 0, 1) := by decide +kernel
theorem dX9_tried_177 : decode cX9_tried 177 = .ok (.istore 7, 2) := by decide +kernel
theorem dX9_tried_179 : decode cX9_tried 179 = .ok (.iload 7, 2) := by decide +kernel
theorem dX9_tried_181 : decode cX9_tried 181 = .ok (.sipush 180, 3) := by decide +kernel
theorem dX9_tried_184 : decode cX9_tried 184 = .ok (.if_icmp .ge 23, 3) := by decide +kernel
theorem dX9_tried_187 : decode cX9_tried 187 = .ok (.aload_n 0, 1) := by decide +kernel
theorem dX9_tried_188 : decode cX9_tried 188 = .ok (.getfield 39, 3) := by decide +kernel
theorem dX9_tried_191 : decode cX9_tried 191 = .ok (.iload 7, 2) := by decide +kernel
theorem dX9_tried_193 : decode cX9_tried 193 = .ok (.aload_n 0, 1) := by decide +kernel
theorem dX9_tried_194 : decode cX9_tried 194 = .ok (.getfield 52, 3) := by decide +kernel
theorem dX9_tried_197 : decode cX9_tried 197 = .ok (.iload 7, 2) := by decide +kernel
theorem dX9_tried_199 : decode cX9_tried 199 = .ok (.iaload, 1) := by decide +kernel
theorem dX9_tried_200 : decode cX9_tried 200 = .ok (.iastore, 1) := by decide +kernel
theorem dX9_tried_201 : decode cX9_tried 201 = .ok (.iinc 7 1, 3) := by decide +kernel
theorem dX9_tried_204 : decode cX9_tried 204 = .ok (.goto (-25), 3) := by decide +kernel
theorem dX9_tried_207 : decode cX9_tried 207 = .ok (.iload 6, 2) := by decide +kernel
theorem dX9_tried_209 : decode cX9_tried 209 = .ok (.ireturn, 1) := by decide +kernel
theorem dX9_spareOf_0 : decode cX9_spareOf 0 = .ok (.aload_n 0, 1) := by decide +kernel
theorem dX9_spareOf_1 : decode cX9_spareOf 1 = .ok (.getfield 55, 3) := by decide +kernel
theorem dX9_spareOf_4 : decode cX9_spareOf 4 = .ok (.iload_n 1, 1) := by decide +kernel
theorem dX9_spareOf_5 : decode cX9_spareOf 5 = .ok (.iaload, 1) := by decide +kernel
theorem dX9_spareOf_6 : decode cX9_spareOf 6 = .ok (.istore_n 3, 1) := by decide +kernel
theorem dX9_spareOf_7 : decode cX9_spareOf 7 = .ok (.aload_n 0, 1) := by decide +kernel
theorem dX9_spareOf_8 : decode cX9_spareOf 8 = .ok (.iload_n 1, 1) := by decide +kernel
theorem dX9_spareOf_9 : decode cX9_spareOf 9 = .ok (.invokevirtual 289, 3) := by decide +kernel
theorem dX9_spareOf_12 : decode cX9_spareOf 12 = .ok (.iload_n 2, 1) := by decide +kernel
theorem dX9_spareOf_13 : decode cX9_spareOf 13 = .ok (.if_icmp .ne 13, 3) := by decide +kernel
theorem dX9_spareOf_16 : decode cX9_spareOf 16 = .ok (.aload_n 0, 1) := by decide +kernel
theorem dX9_spareOf_17 : decode cX9_spareOf 17 = .ok (.getfield 39, 3) := by decide +kernel
theorem dX9_spareOf_20 : decode cX9_spareOf 20 = .ok (.bipush 50, 2) := by decide +kernel
theorem dX9_spareOf_22 : decode cX9_spareOf 22 = .ok (.iload_n 3, 1) := by decide +kernel
theorem dX9_spareOf_23 : decode cX9_spareOf 23 = .ok (.iadd, 1) := by decide +kernel
theorem dX9_spareOf_24 : decode cX9_spareOf 24 = .ok (.iaload, 1) := by decide +kernel
theorem dX9_spareOf_25 : decode cX9_spareOf 25 = .ok (.ireturn, 1) := by decide +kernel
theorem dX9_spareOf_26 : decode cX9_spareOf 26 = .ok (.iload_n 3, 1) := by decide +kernel
theorem dX9_spareOf_27 : decode cX9_spareOf 27 = .ok (.aload_n 0, 1) := by decide +kernel
theorem dX9_spareOf_28 : decode cX9_spareOf 28 = .ok (.getfield 17, 3) := by decide +kernel
theorem dX9_spareOf_31 : decode cX9_spareOf 31 = .ok (.iconst 0, 1) := by decide +kernel
theorem dX9_spareOf_32 : decode cX9_spareOf 32 = .ok (.iaload, 1) := by decide +kernel
theorem dX9_spareOf_33 : decode cX9_spareOf 33 = .ok (.if_icmp .ge 25, 3) := by decide +kernel
theorem dX9_spareOf_36 : decode cX9_spareOf 36 = .ok (.aload_n 0, 1) := by decide +kernel
theorem dX9_spareOf_37 : decode cX9_spareOf 37 = .ok (.getfield 39, 3) := by decide +kernel
theorem dX9_spareOf_40 : decode cX9_spareOf 40 = .ok (.bipush 24, 2) := by decide +kernel
theorem dX9_spareOf_42 : decode cX9_spareOf 42 = .ok (.iload_n 3, 1) := by decide +kernel
theorem dX9_spareOf_43 : decode cX9_spareOf 43 = .ok (.iadd, 1) := by decide +kernel
theorem dX9_spareOf_44 : decode cX9_spareOf 44 = .ok (.iaload, 1) := by decide +kernel
theorem dX9_spareOf_45 : decode cX9_spareOf 45 = .ok (.aload_n 0, 1) := by decide +kernel
theorem dX9_spareOf_46 : decode cX9_spareOf 46 = .ok (.getfield 39, 3) := by decide +kernel
theorem dX9_spareOf_49 : decode cX9_spareOf 49 = .ok (.bipush 50, 2) := by decide +kernel
theorem dX9_spareOf_51 : decode cX9_spareOf 51 = .ok (.iload_n 3, 1) := by decide +kernel
theorem dX9_spareOf_52 : decode cX9_spareOf 52 = .ok (.iadd, 1) := by decide +kernel
theorem dX9_spareOf_53 : decode cX9_spareOf 53 = .ok (.iaload, 1) := by decide +kernel
theorem dX9_spareOf_54 : decode cX9_spareOf 54 = .ok (.isub, 1) := by decide +kernel
theorem dX9_spareOf_55 : decode cX9_spareOf 55 = .ok (.goto 6, 3) := by decide +kernel
theorem dX9_spareOf_58 : decode cX9_spareOf 58 = .ok (.ldc_w 357, 3) := by decide +kernel
theorem dX9_spareOf_61 : decode cX9_spareOf 61 = .ok (.ireturn, 1) := by decide +kernel
theorem dX9_load_0 : decode cX9_load 0 = .ok (.aload_n 0, 1) := by decide +kernel
theorem dX9_load_1 : decode cX9_load 1 = .ok (.iconst 0, 1) := by decide +kernel
theorem dX9_load_2 : decode cX9_load 2 = .ok (.putfield 82, 3) := by decide +kernel
theorem dX9_load_5 : decode cX9_load 5 = .ok (.aload_n 0, 1) := by decide +kernel
theorem dX9_load_6 : decode cX9_load 6 = .ok (.iload_n 1, 1) := by decide +kernel
theorem dX9_load_7 : decode cX9_load 7 = .ok (.invokevirtual 251, 3) := by decide +kernel
theorem dX9_load_10 : decode cX9_load 10 = .ok (.ifCond .eq 44, 3) := by decide +kernel
theorem dX9_load_13 : decode cX9_load 13 = .ok (.iload_n 2, 1) := by decide +kernel
theorem dX9_load_14 : decode cX9_load 14 = .ok (.i2l, 1) := by decide +kernel
theorem dX9_load_15 : decode cX9_load 15 = .ok (.ldc2_w 358, 3) := by decide +kernel
theorem dX9_load_18 : decode cX9_load 18 = .ok (.ldc2_w 360, 3) := by decide +kernel
theorem dX9_load_21 : decode cX9_load 21 = .ok (.invokestatic 120, 3) := by decide +kernel
theorem dX9_load_24 : decode cX9_load 24 = .ok (.ifCond .eq 30, 3) := by decide +kernel
theorem dX9_load_27 : decode cX9_load 27 = .ok (.iload_n 2, 1) := by decide +kernel
theorem dX9_load_28 : decode cX9_load 28 = .ok (.ifCond .eq 26, 3) := by decide +kernel
theorem dX9_load_31 : decode cX9_load 31 = .ok (.aload_n 0, 1) := by decide +kernel
theorem dX9_load_32 : decode cX9_load 32 = .ok (.getfield 39, 3) := by decide +kernel
theorem dX9_load_35 : decode cX9_load 35 = .ok (.iconst 0, 1) := by decide +kernel
theorem dX9_load_36 : decode cX9_load 36 = .ok (.iload_n 1, 1) := by decide +kernel
theorem dX9_load_37 : decode cX9_load 37 = .ok (.iadd, 1) := by decide +kernel
theorem dX9_load_38 : decode cX9_load 38 = .ok (.iaload, 1) := by decide +kernel
theorem dX9_load_39 : decode cX9_load 39 = .ok (.iload_n 2, 1) := by decide +kernel
theorem dX9_load_40 : decode cX9_load 40 = .ok (.iadd, 1) := by decide +kernel
theorem dX9_load_41 : decode cX9_load 41 = .ok (.i2l, 1) := by decide +kernel
theorem dX9_load_42 : decode cX9_load 42 = .ok (.ldc2_w 352, 3) := by decide +kernel
theorem dX9_load_45 : decode cX9_load 45 = .ok (.ldc2_w 350, 3) := by decide +kernel
theorem dX9_load_48 : decode cX9_load 48 = .ok (.invokestatic 120, 3) := by decide +kernel
theorem dX9_load_51 : decode cX9_load 51 = .ok (.ifCond .ne 5, 3) := by decide +kernel
theorem dX9_load_54 : decode cX9_load 54 = .ok (.iconst (-1), 1) := by decide +kernel
theorem dX9_load_55 : decode cX9_load 55 = .ok (.ireturn, 1) := by decide +kernel
theorem dX9_load_56 : decode cX9_load 56 = .ok (.aload_n 0, 1) := by decide +kernel
theorem dX9_load_57 : decode cX9_load 57 = .ok (.invokevirtual 242, 3) := by decide +kernel
theorem dX9_load_60 : decode cX9_load 60 = .ok (.iload_n 1, 1) := by decide +kernel
theorem dX9_load_61 : decode cX9_load 61 = .ok (.istore_n 3, 1) := by decide +kernel
theorem dX9_load_62 : decode cX9_load 62 = .ok (.iload_n 3, 1) := by decide +kernel
theorem dX9_load_63 : decode cX9_load 63 = .ok (.bipush 8, 2) := by decide +kernel
theorem dX9_load_65 : decode cX9_load 65 = .ok (.if_icmp .eq 43, 3) := by decide +kernel
theorem dX9_load_68 : decode cX9_load 68 = .ok (.aload_n 0, 1) := by decide +kernel
theorem dX9_load_69 : decode cX9_load 69 = .ok (.iload_n 3, 1) := by decide +kernel
theorem dX9_load_70 : decode cX9_load 70 = .ok (.iload_n 2, 1) := by decide +kernel
theorem dX9_load_71 : decode cX9_load 71 = .ok (.ifCond .ge 7, 3) := by decide +kernel
theorem dX9_load_74 : decode cX9_load 74 = .ok (.iconst 1, 1) := by decide +kernel
theorem dX9_load_75 : decode cX9_load 75 = .ok (.goto 4, 3) := by decide +kernel
theorem dX9_load_78 : decode cX9_load 78 = .ok (.iconst 0, 1) := by decide +kernel
theorem dX9_load_79 : decode cX9_load 79 = .ok (.invokevirtual 362, 3) := by decide +kernel
theorem dX9_load_82 : decode cX9_load 82 = .ok (.iload_n 2, 1) := by decide +kernel
theorem dX9_load_83 : decode cX9_load 83 = .ok (.invokestatic 271, 3) := by decide +kernel
theorem dX9_load_86 : decode cX9_load 86 = .ok (.if_icmp .ge 13, 3) := by decide +kernel
theorem dX9_load_89 : decode cX9_load 89 = .ok (.bipush (-2), 2) := by decide +kernel
theorem dX9_load_91 : decode cX9_load 91 = .ok (.aload_n 0, 1) := by decide +kernel
theorem dX9_load_92 : decode cX9_load 92 = .ok (.getfield 55, 3) := by decide +kernel
theorem dX9_load_95 : decode cX9_load 95 = .ok (.iload_n 3, 1) := by decide +kernel
theorem dX9_load_96 : decode cX9_load 96 = .ok (.iaload, 1) := by decide +kernel
theorem dX9_load_97 : decode cX9_load 97 = .ok (.isub, 1) := by decide +kernel
theorem dX9_load_98 : decode cX9_load 98 = .ok (.ireturn, 1) := by decide +kernel
theorem dX9_load_99 : decode cX9_load 99 = .ok (.aload_n 0, 1) := by decide +kernel
theorem dX9_load_100 : decode cX9_load 100 = .ok (.iload_n 3, 1) := by decide +kernel
theorem dX9_load_101 : decode cX9_load 101 = .ok (.invokevirtual 248, 3) := by decide +kernel
theorem dX9_load_104 : decode cX9_load 104 = .ok (.istore_n 3, 1) := by decide +kernel
theorem dX9_load_105 : decode cX9_load 105 = .ok (.goto (-43), 3) := by decide +kernel
theorem dX9_load_108 : decode cX9_load 108 = .ok (.aload_n 0, 1) := by decide +kernel
theorem dX9_load_109 : decode cX9_load 109 = .ok (.invokevirtual 319, 3) := by decide +kernel
theorem dX9_load_112 : decode cX9_load 112 = .ok (.aload_n 0, 1) := by decide +kernel
theorem dX9_load_113 : decode cX9_load 113 = .ok (.getfield 39, 3) := by decide +kernel
theorem dX9_load_116 : decode cX9_load 116 = .ok (.iconst 0, 1) := by decide +kernel
theorem dX9_load_117 : decode cX9_load 117 = .ok (.iload_n 1, 1) := by decide +kernel
theorem dX9_load_118 : decode cX9_load 118 = .ok (.iadd, 1) := by decide +kernel
theorem dX9_load_119 : decode cX9_load 119 = .ok (.dup2, 1) := by decide +kernel
theorem dX9_load_120 : decode cX9_load 120 = .ok (.iaload, 1) := by decide +kernel
theorem dX9_load_121 : decode cX9_load 121 = .ok (.iload_n 2, 1) := by decide +kernel
theorem dX9_load_122 : decode cX9_load 122 = .ok (.iadd, 1) := by decide +kernel
theorem dX9_load_123 : decode cX9_load 123 = .ok (.iastore, 1) := by decide +kernel
theorem dX9_load_124 : decode cX9_load 124 = .ok (.iload_n 1, 1) := by decide +kernel
theorem dX9_load_125 : decode cX9_load 125 = .ok (.istore_n 3, 1) := by decide +kernel
theorem dX9_load_126 : decode cX9_load 126 = .ok (.iload_n 3, 1) := by decide +kernel
theorem dX9_load_127 : decode cX9_load 127 = .ok (.bipush 8, 2) := by decide +kernel
theorem dX9_load_129 : decode cX9_load 129 = .ok (.if_icmp .eq 43, 3) := by decide +kernel
theorem dX9_load_132 : decode cX9_load 132 = .ok (.aload_n 0, 1) := by decide +kernel
theorem dX9_load_133 : decode cX9_load 133 = .ok (.getfield 39, 3) := by decide +kernel
theorem dX9_load_136 : decode cX9_load 136 = .ok (.bipush 50, 2) := by decide +kernel
theorem dX9_load_138 : decode cX9_load 138 = .ok (.aload_n 0, 1) := by decide +kernel
theorem dX9_load_139 : decode cX9_load 139 = .ok (.getfield 55, 3) := by decide +kernel
theorem dX9_load_142 : decode cX9_load 142 = .ok (.iload_n 3, 1) := by decide +kernel
theorem dX9_load_143 : decode cX9_load 143 = .ok (.iaload, 1) := by decide +kernel
theorem dX9_load_144 : decode cX9_load 144 = .ok (.iadd, 1) := by decide +kernel
theorem dX9_load_145 : decode cX9_load 145 = .ok (.dup2, 1) := by decide +kernel
theorem dX9_load_146 : decode cX9_load 146 = .ok (.iaload, 1) := by decide +kernel
theorem dX9_load_147 : decode cX9_load 147 = .ok (.aload_n 0, 1) := by decide +kernel
theorem dX9_load_148 : decode cX9_load 148 = .ok (.iload_n 3, 1) := by decide +kernel
theorem dX9_load_149 : decode cX9_load 149 = .ok (.invokevirtual 289, 3) := by decide +kernel
theorem dX9_load_152 : decode cX9_load 152 = .ok (.ifCond .eq 7, 3) := by decide +kernel
theorem dX9_load_155 : decode cX9_load 155 = .ok (.iload_n 2, 1) := by decide +kernel
theorem dX9_load_156 : decode cX9_load 156 = .ok (.goto 5, 3) := by decide +kernel
theorem dX9_load_159 : decode cX9_load 159 = .ok (.iload_n 2, 1) := by decide +kernel
theorem dX9_load_160 : decode cX9_load 160 = .ok (.ineg, 1) := by decide +kernel
theorem dX9_load_161 : decode cX9_load 161 = .ok (.iadd, 1) := by decide +kernel
theorem dX9_load_162 : decode cX9_load 162 = .ok (.iastore, 1) := by decide +kernel
theorem dX9_load_163 : decode cX9_load 163 = .ok (.aload_n 0, 1) := by decide +kernel
theorem dX9_load_164 : decode cX9_load 164 = .ok (.iload_n 3, 1) := by decide +kernel
theorem dX9_load_165 : decode cX9_load 165 = .ok (.invokevirtual 248, 3) := by decide +kernel
theorem dX9_load_168 : decode cX9_load 168 = .ok (.istore_n 3, 1) := by decide +kernel
theorem dX9_load_169 : decode cX9_load 169 = .ok (.goto (-43), 3) := by decide +kernel
theorem dX9_load_172 : decode cX9_load 172 = .ok (.aload_n 0, 1) := by decide +kernel
theorem dX9_load_173 : decode cX9_load 173 = .ok (.getfield 58, 3) := by decide +kernel
theorem dX9_load_176 : decode cX9_load 176 = .ok (.iload_n 1, 1) := by decide +kernel
theorem dX9_load_177 : decode cX9_load 177 = .ok (.iaload, 1) := by decide +kernel
theorem dX9_load_178 : decode cX9_load 178 = .ok (.ireturn, 1) := by decide +kernel
theorem dX9_spare_0 : decode cX9_spare 0 = .ok (.aload_n 0, 1) := by decide +kernel
theorem dX9_spare_1 : decode cX9_spare 1 = .ok (.iconst 0, 1) := by decide +kernel
theorem dX9_spare_2 : decode cX9_spare 2 = .ok (.putfield 82, 3) := by decide +kernel
theorem dX9_spare_5 : decode cX9_spare 5 = .ok (.aload_n 0, 1) := by decide +kernel
theorem dX9_spare_6 : decode cX9_spare 6 = .ok (.iload_n 1, 1) := by decide +kernel
theorem dX9_spare_7 : decode cX9_spare 7 = .ok (.invokevirtual 251, 3) := by decide +kernel
theorem dX9_spare_10 : decode cX9_spare 10 = .ok (.ifCond .ne 5, 3) := by decide +kernel
theorem dX9_spare_13 : decode cX9_spare 13 = .ok (.iconst (-1), 1) := by decide +kernel
theorem dX9_spare_14 : decode cX9_spare 14 = .ok (.ireturn, 1) := by decide +kernel
theorem dX9_spare_15 : decode cX9_spare 15 = .ok (.aload_n 0, 1) := by decide +kernel
theorem dX9_spare_16 : decode cX9_spare 16 = .ok (.invokevirtual 242, 3) := by decide +kernel
theorem dX9_spare_19 : decode cX9_spare 19 = .ok (.ldc_w 357, 3) := by decide +kernel
theorem dX9_spare_22 : decode cX9_spare 22 = .ok (.istore_n 3, 1) := by decide +kernel
theorem dX9_spare_23 : decode cX9_spare 23 = .ok (.iload_n 1, 1) := by decide +kernel
theorem dX9_spare_24 : decode cX9_spare 24 = .ok (.istore 4, 2) := by decide +kernel
theorem dX9_spare_26 : decode cX9_spare 26 = .ok (.iload 4, 2) := by decide +kernel
theorem dX9_spare_28 : decode cX9_spare 28 = .ok (.bipush 8, 2) := by decide +kernel
theorem dX9_spare_30 : decode cX9_spare 30 = .ok (.if_icmp .eq 37, 3) := by decide +kernel
theorem dX9_spare_33 : decode cX9_spare 33 = .ok (.aload_n 0, 1) := by decide +kernel
theorem dX9_spare_34 : decode cX9_spare 34 = .ok (.iload 4, 2) := by decide +kernel
theorem dX9_spare_36 : decode cX9_spare 36 = .ok (.iload_n 2, 1) := by decide +kernel
theorem dX9_spare_37 : decode cX9_spare 37 = .ok (.invokevirtual 362, 3) := by decide +kernel
theorem dX9_spare_40 : decode cX9_spare 40 = .ok (.iload_n 3, 1) := by decide +kernel
theorem dX9_spare_41 : decode cX9_spare 41 = .ok (.if_icmp .ge 13, 3) := by decide +kernel
theorem dX9_spare_44 : decode cX9_spare 44 = .ok (.aload_n 0, 1) := by decide +kernel
theorem dX9_spare_45 : decode cX9_spare 45 = .ok (.iload 4, 2) := by decide +kernel
theorem dX9_spare_47 : decode cX9_spare 47 = .ok (.iload_n 2, 1) := by decide +kernel
theorem dX9_spare_48 : decode cX9_spare 48 = .ok (.invokevirtual 362, 3) := by decide +kernel
theorem dX9_spare_51 : decode cX9_spare 51 = .ok (.goto 4, 3) := by decide +kernel
theorem dX9_spare_54 : decode cX9_spare 54 = .ok (.iload_n 3, 1) := by decide +kernel
theorem dX9_spare_55 : decode cX9_spare 55 = .ok (.istore_n 3, 1) := by decide +kernel
theorem dX9_spare_56 : decode cX9_spare 56 = .ok (.aload_n 0, 1) := by decide +kernel
theorem dX9_spare_57 : decode cX9_spare 57 = .ok (.iload 4, 2) := by decide +kernel
theorem dX9_spare_59 : decode cX9_spare 59 = .ok (.invokevirtual 248, 3) := by decide +kernel
theorem dX9_spare_62 : decode cX9_spare 62 = .ok (.istore 4, 2) := by decide +kernel
theorem dX9_spare_64 : decode cX9_spare 64 = .ok (.goto (-38), 3) := by decide +kernel
theorem dX9_spare_67 : decode cX9_spare 67 = .ok (.iload_n 3, 1) := by decide +kernel
theorem dX9_spare_68 : decode cX9_spare 68 = .ok (.ireturn, 1) := by decide +kernel
theorem dX9_retold_0 : decode cX9_retold 0 = .ok (.aload_n 0, 1) := by decide +kernel
theorem dX9_retold_1 : decode cX9_retold 1 = .ok (.invokevirtual 319, 3) := by decide +kernel
theorem dX9_retold_4 : decode cX9_retold 4 = .ok (.aload_n 0, 1) := by decide +kernel
theorem dX9_retold_5 : decode cX9_retold 5 = .ok (.getfield 39, 3) := by decide +kernel
theorem dX9_retold_8 : decode cX9_retold 8 = .ok (.iload_n 1, 1) := by decide +kernel
theorem dX9_retold_9 : decode cX9_retold 9 = .ok (.iaload, 1) := by decide +kernel
theorem dX9_retold_10 : decode cX9_retold 10 = .ok (.istore_n 3, 1) := by decide +kernel
theorem dX9_retold_11 : decode cX9_retold 11 = .ok (.aload_n 0, 1) := by decide +kernel
theorem dX9_retold_12 : decode cX9_retold 12 = .ok (.getfield 39, 3) := by decide +kernel
theorem dX9_retold_15 : decode cX9_retold 15 = .ok (.iload_n 1, 1) := by decide +kernel
theorem dX9_retold_16 : decode cX9_retold 16 = .ok (.iload_n 2, 1) := by decide +kernel
theorem dX9_retold_17 : decode cX9_retold 17 = .ok (.iastore, 1) := by decide +kernel
theorem dX9_retold_18 : decode cX9_retold 18 = .ok (.iload_n 3, 1) := by decide +kernel
theorem dX9_retold_19 : decode cX9_retold 19 = .ok (.ireturn, 1) := by decide +kernel
theorem dX9_toll_0 : decode cX9_toll 0 = .ok (.aload_n 0, 1) := by decide +kernel
theorem dX9_toll_1 : decode cX9_toll 1 = .ok (.iconst 0, 1) := by decide +kernel
theorem dX9_toll_2 : decode cX9_toll 2 = .ok (.putfield 82, 3) := by decide +kernel
theorem dX9_toll_5 : decode cX9_toll 5 = .ok (.aload_n 0, 1) := by decide +kernel
theorem dX9_toll_6 : decode cX9_toll 6 = .ok (.iload_n 1, 1) := by decide +kernel
theorem dX9_toll_7 : decode cX9_toll 7 = .ok (.invokevirtual 347, 3) := by decide +kernel
theorem dX9_toll_10 : decode cX9_toll 10 = .ok (.ifCond .eq 40, 3) := by decide +kernel
theorem dX9_toll_13 : decode cX9_toll 13 = .ok (.iload_n 2, 1) := by decide +kernel
theorem dX9_toll_14 : decode cX9_toll 14 = .ok (.i2l, 1) := by decide +kernel
theorem dX9_toll_15 : decode cX9_toll 15 = .ok (.lconst 0, 1) := by decide +kernel
theorem dX9_toll_16 : decode cX9_toll 16 = .ok (.ldc2_w 350, 3) := by decide +kernel
theorem dX9_toll_19 : decode cX9_toll 19 = .ok (.invokestatic 120, 3) := by decide +kernel
theorem dX9_toll_22 : decode cX9_toll 22 = .ok (.ifCond .eq 28, 3) := by decide +kernel
theorem dX9_toll_25 : decode cX9_toll 25 = .ok (.aload_n 0, 1) := by decide +kernel
theorem dX9_toll_26 : decode cX9_toll 26 = .ok (.getfield 39, 3) := by decide +kernel
theorem dX9_toll_29 : decode cX9_toll 29 = .ok (.bipush 8, 2) := by decide +kernel
theorem dX9_toll_31 : decode cX9_toll 31 = .ok (.iload_n 1, 1) := by decide +kernel
theorem dX9_toll_32 : decode cX9_toll 32 = .ok (.iadd, 1) := by decide +kernel
theorem dX9_toll_33 : decode cX9_toll 33 = .ok (.iaload, 1) := by decide +kernel
theorem dX9_toll_34 : decode cX9_toll 34 = .ok (.iload_n 2, 1) := by decide +kernel
theorem dX9_toll_35 : decode cX9_toll 35 = .ok (.if_icmp .eq 15, 3) := by decide +kernel
theorem dX9_toll_38 : decode cX9_toll 38 = .ok (.aload_n 0, 1) := by decide +kernel
theorem dX9_toll_39 : decode cX9_toll 39 = .ok (.bipush 8, 2) := by decide +kernel
theorem dX9_toll_41 : decode cX9_toll 41 = .ok (.iload_n 1, 1) := by decide +kernel
theorem dX9_toll_42 : decode cX9_toll 42 = .ok (.iadd, 1) := by decide +kernel
theorem dX9_toll_43 : decode cX9_toll 43 = .ok (.iload_n 2, 1) := by decide +kernel
theorem dX9_toll_44 : decode cX9_toll 44 = .ok (.invokevirtual 366, 3) := by decide +kernel
theorem dX9_toll_47 : decode cX9_toll 47 = .ok (.goto 4, 3) := by decide +kernel
theorem dX9_toll_50 : decode cX9_toll 50 = .ok (.iconst (-1), 1) := by decide +kernel
theorem dX9_toll_51 : decode cX9_toll 51 = .ok (.ireturn, 1) := by decide +kernel
theorem dX9_hold_0 : decode cX9_hold 0 = .ok (.aload_n 0, 1) := by decide +kernel
theorem dX9_hold_1 : decode cX9_hold 1 = .ok (.iconst 0, 1) := by decide +kernel
theorem dX9_hold_2 : decode cX9_hold 2 = .ok (.putfield 82, 3) := by decide +kernel
theorem dX9_hold_5 : decode cX9_hold 5 = .ok (.aload_n 0, 1) := by decide +kernel
theorem dX9_hold_6 : decode cX9_hold 6 = .ok (.iload_n 1, 1) := by decide +kernel
theorem dX9_hold_7 : decode cX9_hold 7 = .ok (.invokevirtual 347, 3) := by decide +kernel
theorem dX9_hold_10 : decode cX9_hold 10 = .ok (.ifCond .eq 28, 3) := by decide +kernel
theorem dX9_hold_13 : decode cX9_hold 13 = .ok (.iload_n 2, 1) := by decide +kernel
theorem dX9_hold_14 : decode cX9_hold 14 = .ok (.i2l, 1) := by decide +kernel
theorem dX9_hold_15 : decode cX9_hold 15 = .ok (.lconst 1, 1) := by decide +kernel
theorem dX9_hold_16 : decode cX9_hold 16 = .ok (.ldc2_w 350, 3) := by decide +kernel
theorem dX9_hold_19 : decode cX9_hold 19 = .ok (.invokestatic 120, 3) := by decide +kernel
theorem dX9_hold_22 : decode cX9_hold 22 = .ok (.ifCond .eq 16, 3) := by decide +kernel
theorem dX9_hold_25 : decode cX9_hold 25 = .ok (.aload_n 0, 1) := by decide +kernel
theorem dX9_hold_26 : decode cX9_hold 26 = .ok (.getfield 39, 3) := by decide +kernel
theorem dX9_hold_29 : decode cX9_hold 29 = .ok (.bipush 24, 2) := by decide +kernel
theorem dX9_hold_31 : decode cX9_hold 31 = .ok (.iload_n 1, 1) := by decide +kernel
theorem dX9_hold_32 : decode cX9_hold 32 = .ok (.iadd, 1) := by decide +kernel
theorem dX9_hold_33 : decode cX9_hold 33 = .ok (.iaload, 1) := by decide +kernel
theorem dX9_hold_34 : decode cX9_hold 34 = .ok (.iload_n 2, 1) := by decide +kernel
theorem dX9_hold_35 : decode cX9_hold 35 = .ok (.if_icmp .ne 5, 3) := by decide +kernel
theorem dX9_hold_38 : decode cX9_hold 38 = .ok (.iconst (-1), 1) := by decide +kernel
theorem dX9_hold_39 : decode cX9_hold 39 = .ok (.ireturn, 1) := by decide +kernel
theorem dX9_hold_40 : decode cX9_hold 40 = .ok (.aload_n 0, 1) := by decide +kernel
theorem dX9_hold_41 : decode cX9_hold 41 = .ok (.getfield 39, 3) := by decide +kernel
theorem dX9_hold_44 : decode cX9_hold 44 = .ok (.bipush 74, 2) := by decide +kernel
theorem dX9_hold_46 : decode cX9_hold 46 = .ok (.iload_n 1, 1) := by decide +kernel
theorem dX9_hold_47 : decode cX9_hold 47 = .ok (.iadd, 1) := by decide +kernel
theorem dX9_hold_48 : decode cX9_hold 48 = .ok (.iaload, 1) := by decide +kernel
theorem dX9_hold_49 : decode cX9_hold 49 = .ok (.iconst 2, 1) := by decide +kernel
theorem dX9_hold_50 : decode cX9_hold 50 = .ok (.if_icmp .eq 16, 3) := by decide +kernel
theorem dX9_hold_53 : decode cX9_hold 53 = .ok (.aload_n 0, 1) := by decide +kernel
theorem dX9_hold_54 : decode cX9_hold 54 = .ok (.getfield 39, 3) := by decide +kernel
theorem dX9_hold_57 : decode cX9_hold 57 = .ok (.bipush 50, 2) := by decide +kernel
theorem dX9_hold_59 : decode cX9_hold 59 = .ok (.iload_n 1, 1) := by decide +kernel
theorem dX9_hold_60 : decode cX9_hold 60 = .ok (.iadd, 1) := by decide +kernel
theorem dX9_hold_61 : decode cX9_hold 61 = .ok (.iaload, 1) := by decide +kernel
theorem dX9_hold_62 : decode cX9_hold 62 = .ok (.iload_n 2, 1) := by decide +kernel
theorem dX9_hold_63 : decode cX9_hold 63 = .ok (.if_icmp .le 8, 3) := by decide +kernel
theorem dX9_hold_66 : decode cX9_hold 66 = .ok (.bipush (-2), 2) := by decide +kernel
theorem dX9_hold_68 : decode cX9_hold 68 = .ok (.goto 12, 3) := by decide +kernel
theorem dX9_hold_71 : decode cX9_hold 71 = .ok (.aload_n 0, 1) := by decide +kernel
theorem dX9_hold_72 : decode cX9_hold 72 = .ok (.bipush 24, 2) := by decide +kernel
