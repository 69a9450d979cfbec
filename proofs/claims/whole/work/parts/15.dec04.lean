theorem d_Mo_make_0 : decode jM_Mo_make.2.1 0 = .ok (.aload_n 0, 1) := by decide +kernel
theorem d_Mo_make_1 : decode jM_Mo_make.2.1 1 = .ok (.getfield 75, 3) := by decide +kernel
theorem d_Mo_make_4 : decode jM_Mo_make.2.1 4 = .ok (.bipush 24, 2) := by decide +kernel
theorem d_Mo_make_6 : decode jM_Mo_make.2.1 6 = .ok (.if_icmp .eq 71, 3) := by decide +kernel
theorem d_Mo_make_9 : decode jM_Mo_make.2.1 9 = .ok (.iload_n 1, 1) := by decide +kernel
theorem d_Mo_make_10 : decode jM_Mo_make.2.1 10 = .ok (.ifCond .lt 67, 3) := by decide +kernel
theorem d_Mo_make_13 : decode jM_Mo_make.2.1 13 = .ok (.iload_n 1, 1) := by decide +kernel
theorem d_Mo_make_14 : decode jM_Mo_make.2.1 14 = .ok (.bipush 7, 2) := by decide +kernel
theorem d_Mo_make_16 : decode jM_Mo_make.2.1 16 = .ok (.if_icmp .gt 61, 3) := by decide +kernel
theorem d_Mo_make_19 : decode jM_Mo_make.2.1 19 = .ok (.iload_n 1, 1) := by decide +kernel
theorem d_Mo_make_20 : decode jM_Mo_make.2.1 20 = .ok (.iconst 4, 1) := by decide +kernel
theorem d_Mo_make_21 : decode jM_Mo_make.2.1 21 = .ok (.if_icmp .ne 14, 3) := by decide +kernel
theorem d_Mo_make_24 : decode jM_Mo_make.2.1 24 = .ok (.aload_n 0, 1) := by decide +kernel
theorem d_Mo_make_25 : decode jM_Mo_make.2.1 25 = .ok (.iload_n 2, 1) := by decide +kernel
theorem d_Mo_make_26 : decode jM_Mo_make.2.1 26 = .ok (.iload_n 3, 1) := by decide +kernel
theorem d_Mo_make_27 : decode jM_Mo_make.2.1 27 = .ok (.iload 4, 2) := by decide +kernel
theorem d_Mo_make_29 : decode jM_Mo_make.2.1 29 = .ok (.invokevirtual 98, 3) := by decide +kernel
theorem d_Mo_make_32 : decode jM_Mo_make.2.1 32 = .ok (.ifCond .ne 45, 3) := by decide +kernel
theorem d_Mo_make_35 : decode jM_Mo_make.2.1 35 = .ok (.iload_n 1, 1) := by decide +kernel
theorem d_Mo_make_36 : decode jM_Mo_make.2.1 36 = .ok (.iconst 5, 1) := by decide +kernel
theorem d_Mo_make_37 : decode jM_Mo_make.2.1 37 = .ok (.if_icmp .ne 11, 3) := by decide +kernel
theorem d_Mo_make_40 : decode jM_Mo_make.2.1 40 = .ok (.aload_n 0, 1) := by decide +kernel
theorem d_Mo_make_41 : decode jM_Mo_make.2.1 41 = .ok (.iload_n 3, 1) := by decide +kernel
theorem d_Mo_make_42 : decode jM_Mo_make.2.1 42 = .ok (.invokevirtual 92, 3) := by decide +kernel
theorem d_Mo_make_45 : decode jM_Mo_make.2.1 45 = .ok (.ifCond .ne 32, 3) := by decide +kernel
theorem d_Mo_make_48 : decode jM_Mo_make.2.1 48 = .ok (.iload_n 1, 1) := by decide +kernel
theorem d_Mo_make_49 : decode jM_Mo_make.2.1 49 = .ok (.bipush 6, 2) := by decide +kernel
theorem d_Mo_make_51 : decode jM_Mo_make.2.1 51 = .ok (.if_icmp .ne 13, 3) := by decide +kernel
theorem d_Mo_make_54 : decode jM_Mo_make.2.1 54 = .ok (.aload_n 0, 1) := by decide +kernel
theorem d_Mo_make_55 : decode jM_Mo_make.2.1 55 = .ok (.iload_n 3, 1) := by decide +kernel
theorem d_Mo_make_56 : decode jM_Mo_make.2.1 56 = .ok (.iload 4, 2) := by decide +kernel
theorem d_Mo_make_58 : decode jM_Mo_make.2.1 58 = .ok (.invokevirtual 102, 3) := by decide +kernel
theorem d_Mo_make_61 : decode jM_Mo_make.2.1 61 = .ok (.ifCond .ne 16, 3) := by decide +kernel
theorem d_Mo_make_64 : decode jM_Mo_make.2.1 64 = .ok (.iload_n 1, 1) := by decide +kernel
theorem d_Mo_make_65 : decode jM_Mo_make.2.1 65 = .ok (.bipush 7, 2) := by decide +kernel
theorem d_Mo_make_67 : decode jM_Mo_make.2.1 67 = .ok (.if_icmp .ne 12, 3) := by decide +kernel
theorem d_Mo_make_70 : decode jM_Mo_make.2.1 70 = .ok (.iload_n 2, 1) := by decide +kernel
theorem d_Mo_make_71 : decode jM_Mo_make.2.1 71 = .ok (.invokestatic 88, 3) := by decide +kernel
theorem d_Mo_make_74 : decode jM_Mo_make.2.1 74 = .ok (.ifCond .eq 5, 3) := by decide +kernel
theorem d_Mo_make_77 : decode jM_Mo_make.2.1 77 = .ok (.iconst (-1), 1) := by decide +kernel
theorem d_Mo_make_78 : decode jM_Mo_make.2.1 78 = .ok (.ireturn, 1) := by decide +kernel
theorem d_Mo_make_79 : decode jM_Mo_make.2.1 79 = .ok (.iload_n 1, 1) := by decide +kernel
theorem d_Mo_make_80 : decode jM_Mo_make.2.1 80 = .ok (.iconst 5, 1) := by decide +kernel
theorem d_Mo_make_81 : decode jM_Mo_make.2.1 81 = .ok (.if_icmp .ne 12, 3) := by decide +kernel
theorem d_Mo_make_84 : decode jM_Mo_make.2.1 84 = .ok (.aload_n 0, 1) := by decide +kernel
theorem d_Mo_make_85 : decode jM_Mo_make.2.1 85 = .ok (.getfield 22, 3) := by decide +kernel
theorem d_Mo_make_88 : decode jM_Mo_make.2.1 88 = .ok (.iload_n 3, 1) := by decide +kernel
theorem d_Mo_make_89 : decode jM_Mo_make.2.1 89 = .ok (.iaload, 1) := by decide +kernel
theorem d_Mo_make_90 : decode jM_Mo_make.2.1 90 = .ok (.goto 45, 3) := by decide +kernel
theorem d_Mo_make_93 : decode jM_Mo_make.2.1 93 = .ok (.iload_n 1, 1) := by decide +kernel
theorem d_Mo_make_94 : decode jM_Mo_make.2.1 94 = .ok (.bipush 6, 2) := by decide +kernel
theorem d_Mo_make_96 : decode jM_Mo_make.2.1 96 = .ok (.if_icmp .ne 38, 3) := by decide +kernel
theorem d_Mo_make_99 : decode jM_Mo_make.2.1 99 = .ok (.aload_n 0, 1) := by decide +kernel
theorem d_Mo_make_100 : decode jM_Mo_make.2.1 100 = .ok (.getfield 22, 3) := by decide +kernel
theorem d_Mo_make_103 : decode jM_Mo_make.2.1 103 = .ok (.iload_n 3, 1) := by decide +kernel
theorem d_Mo_make_104 : decode jM_Mo_make.2.1 104 = .ok (.iaload, 1) := by decide +kernel
theorem d_Mo_make_105 : decode jM_Mo_make.2.1 105 = .ok (.aload_n 0, 1) := by decide +kernel
theorem d_Mo_make_106 : decode jM_Mo_make.2.1 106 = .ok (.getfield 22, 3) := by decide +kernel
theorem d_Mo_make_109 : decode jM_Mo_make.2.1 109 = .ok (.iload 4, 2) := by decide +kernel
theorem d_Mo_make_111 : decode jM_Mo_make.2.1 111 = .ok (.iaload, 1) := by decide +kernel
theorem d_Mo_make_112 : decode jM_Mo_make.2.1 112 = .ok (.if_icmp .le 12, 3) := by decide +kernel
theorem d_Mo_make_115 : decode jM_Mo_make.2.1 115 = .ok (.aload_n 0, 1) := by decide +kernel
theorem d_Mo_make_116 : decode jM_Mo_make.2.1 116 = .ok (.getfield 22, 3) := by decide +kernel
theorem d_Mo_make_119 : decode jM_Mo_make.2.1 119 = .ok (.iload_n 3, 1) := by decide +kernel
theorem d_Mo_make_120 : decode jM_Mo_make.2.1 120 = .ok (.iaload, 1) := by decide +kernel
theorem d_Mo_make_121 : decode jM_Mo_make.2.1 121 = .ok (.goto 14, 3) := by decide +kernel
theorem d_Mo_make_124 : decode jM_Mo_make.2.1 124 = .ok (.aload_n 0, 1) := by decide +kernel
theorem d_Mo_make_125 : decode jM_Mo_make.2.1 125 = .ok (.getfield 22, 3) := by decide +kernel
theorem d_Mo_make_128 : decode jM_Mo_make.2.1 128 = .ok (.iload 4, 2) := by decide +kernel
theorem d_Mo_make_130 : decode jM_Mo_make.2.1 130 = .ok (.iaload, 1) := by decide +kernel
theorem d_Mo_make_131 : decode jM_Mo_make.2.1 131 = .ok (.goto 4, 3) := by decide +kernel
theorem d_Mo_make_134 : decode jM_Mo_make.2.1 134 = .ok (.iconst 0, 1) := by decide +kernel
theorem d_Mo_make_135 : decode jM_Mo_make.2.1 135 = .ok (.istore 5, 2) := by decide +kernel
theorem d_Mo_make_137 : decode jM_Mo_make.2.1 137 = .ok (.bipush 72, 2) := by decide +kernel
theorem d_Mo_make_139 : decode jM_Mo_make.2.1 139 = .ok (.istore 6, 2) := by decide +kernel
theorem d_Mo_make_141 : decode jM_Mo_make.2.1 141 = .ok (.iload_n 1, 1) := by decide +kernel
theorem d_Mo_make_142 : decode jM_Mo_make.2.1 142 = .ok (.bipush 7, 2) := by decide +kernel
theorem d_Mo_make_144 : decode jM_Mo_make.2.1 144 = .ok (.if_icmp .ne 57, 3) := by decide +kernel
theorem d_Mo_make_147 : decode jM_Mo_make.2.1 147 = .ok (.iload 6, 2) := by decide +kernel
theorem d_Mo_make_149 : decode jM_Mo_make.2.1 149 = .ok (.bipush 72, 2) := by decide +kernel
theorem d_Mo_make_151 : decode jM_Mo_make.2.1 151 = .ok (.aload_n 0, 1) := by decide +kernel
theorem d_Mo_make_152 : decode jM_Mo_make.2.1 152 = .ok (.getfield 85, 3) := by decide +kernel
theorem d_Mo_make_155 : decode jM_Mo_make.2.1 155 = .ok (.iadd, 1) := by decide +kernel
theorem d_Mo_make_156 : decode jM_Mo_make.2.1 156 = .ok (.if_icmp .ge 45, 3) := by decide +kernel
theorem d_Mo_make_159 : decode jM_Mo_make.2.1 159 = .ok (.aload_n 0, 1) := by decide +kernel
theorem d_Mo_make_160 : decode jM_Mo_make.2.1 160 = .ok (.getfield 22, 3) := by decide +kernel
theorem d_Mo_make_163 : decode jM_Mo_make.2.1 163 = .ok (.aload_n 0, 1) := by decide +kernel
theorem d_Mo_make_164 : decode jM_Mo_make.2.1 164 = .ok (.getfield 31, 3) := by decide +kernel
theorem d_Mo_make_167 : decode jM_Mo_make.2.1 167 = .ok (.iload 6, 2) := by decide +kernel
theorem d_Mo_make_169 : decode jM_Mo_make.2.1 169 = .ok (.iaload, 1) := by decide +kernel
theorem d_Mo_make_170 : decode jM_Mo_make.2.1 170 = .ok (.iaload, 1) := by decide +kernel
theorem d_Mo_make_171 : decode jM_Mo_make.2.1 171 = .ok (.iload 5, 2) := by decide +kernel
theorem d_Mo_make_173 : decode jM_Mo_make.2.1 173 = .ok (.if_icmp .le 18, 3) := by decide +kernel
theorem d_Mo_make_176 : decode jM_Mo_make.2.1 176 = .ok (.aload_n 0, 1) := by decide +kernel
theorem d_Mo_make_177 : decode jM_Mo_make.2.1 177 = .ok (.getfield 22, 3) := by decide +kernel
theorem d_Mo_make_180 : decode jM_Mo_make.2.1 180 = .ok (.aload_n 0, 1) := by decide +kernel
theorem d_Mo_make_181 : decode jM_Mo_make.2.1 181 = .ok (.getfield 31, 3) := by decide +kernel
theorem d_Mo_make_184 : decode jM_Mo_make.2.1 184 = .ok (.iload 6, 2) := by decide +kernel
theorem d_Mo_make_186 : decode jM_Mo_make.2.1 186 = .ok (.iaload, 1) := by decide +kernel
theorem d_Mo_make_187 : decode jM_Mo_make.2.1 187 = .ok (.iaload, 1) := by decide +kernel
theorem d_Mo_make_188 : decode jM_Mo_make.2.1 188 = .ok (.goto 5, 3) := by decide +kernel
theorem d_Mo_make_191 : decode jM_Mo_make.2.1 191 = .ok (.iload 5, 2) := by decide +kernel
theorem d_Mo_make_193 : decode jM_Mo_make.2.1 193 = .ok (.istore 5, 2) := by decide +kernel
theorem d_Mo_make_195 : decode jM_Mo_make.2.1 195 = .ok (.iinc 6 1, 3) := by decide +kernel
theorem d_Mo_make_198 : decode jM_Mo_make.2.1 198 = .ok (.goto (-57), 3) := by decide +kernel
theorem d_Mo_make_201 : decode jM_Mo_make.2.1 201 = .ok (.iload 5, 2) := by decide +kernel
theorem d_Mo_make_203 : decode jM_Mo_make.2.1 203 = .ok (.bipush 6, 2) := by decide +kernel
theorem d_Mo_make_205 : decode jM_Mo_make.2.1 205 = .ok (.if_icmp .lt 5, 3) := by decide +kernel
theorem d_Mo_make_208 : decode jM_Mo_make.2.1 208 = .ok (.iconst (-1), 1) := by decide +kernel
theorem d_Mo_make_209 : decode jM_Mo_make.2.1 209 = .ok (.ireturn, 1) := by decide +kernel
theorem d_Mo_make_210 : decode jM_Mo_make.2.1 210 = .ok (.aload_n 0, 1) := by decide +kernel
theorem d_Mo_make_211 : decode jM_Mo_make.2.1 211 = .ok (.getfield 75, 3) := by decide +kernel
theorem d_Mo_make_214 : decode jM_Mo_make.2.1 214 = .ok (.istore 6, 2) := by decide +kernel
theorem d_Mo_make_216 : decode jM_Mo_make.2.1 216 = .ok (.aload_n 0, 1) := by decide +kernel
theorem d_Mo_make_217 : decode jM_Mo_make.2.1 217 = .ok (.dup, 1) := by decide +kernel
theorem d_Mo_make_218 : decode jM_Mo_make.2.1 218 = .ok (.getfield 75, 3) := by decide +kernel
theorem d_Mo_make_221 : decode jM_Mo_make.2.1 221 = .ok (.iconst 1, 1) := by decide +kernel
theorem d_Mo_make_222 : decode jM_Mo_make.2.1 222 = .ok (.iadd, 1) := by decide +kernel
theorem d_Mo_make_223 : decode jM_Mo_make.2.1 223 = .ok (.putfield 75, 3) := by decide +kernel
theorem d_Mo_make_226 : decode jM_Mo_make.2.1 226 = .ok (.aload_n 0, 1) := by decide +kernel
theorem d_Mo_make_227 : decode jM_Mo_make.2.1 227 = .ok (.getfield 7, 3) := by decide +kernel
theorem d_Mo_make_230 : decode jM_Mo_make.2.1 230 = .ok (.iload 6, 2) := by decide +kernel
theorem d_Mo_make_232 : decode jM_Mo_make.2.1 232 = .ok (.iload_n 1, 1) := by decide +kernel
theorem d_Mo_make_233 : decode jM_Mo_make.2.1 233 = .ok (.iastore, 1) := by decide +kernel
theorem d_Mo_make_234 : decode jM_Mo_make.2.1 234 = .ok (.aload_n 0, 1) := by decide +kernel
theorem d_Mo_make_235 : decode jM_Mo_make.2.1 235 = .ok (.getfield 13, 3) := by decide +kernel
theorem d_Mo_make_238 : decode jM_Mo_make.2.1 238 = .ok (.iload 6, 2) := by decide +kernel
theorem d_Mo_make_240 : decode jM_Mo_make.2.1 240 = .ok (.iload_n 2, 1) := by decide +kernel
theorem d_Mo_make_241 : decode jM_Mo_make.2.1 241 = .ok (.iastore, 1) := by decide +kernel
theorem d_Mo_make_242 : decode jM_Mo_make.2.1 242 = .ok (.aload_n 0, 1) := by decide +kernel
theorem d_Mo_make_243 : decode jM_Mo_make.2.1 243 = .ok (.getfield 16, 3) := by decide +kernel
theorem d_Mo_make_246 : decode jM_Mo_make.2.1 246 = .ok (.iload 6, 2) := by decide +kernel
theorem d_Mo_make_248 : decode jM_Mo_make.2.1 248 = .ok (.iload_n 3, 1) := by decide +kernel
theorem d_Mo_make_249 : decode jM_Mo_make.2.1 249 = .ok (.iastore, 1) := by decide +kernel
theorem d_Mo_make_250 : decode jM_Mo_make.2.1 250 = .ok (.aload_n 0, 1) := by decide +kernel
theorem d_Mo_make_251 : decode jM_Mo_make.2.1 251 = .ok (.getfield 19, 3) := by decide +kernel
theorem d_Mo_make_254 : decode jM_Mo_make.2.1 254 = .ok (.iload 6, 2) := by decide +kernel
theorem d_Mo_make_256 : decode jM_Mo_make.2.1 256 = .ok (.iload 4, 2) := by decide +kernel
theorem d_Mo_make_258 : decode jM_Mo_make.2.1 258 = .ok (.iastore, 1) := by decide +kernel
theorem d_Mo_make_259 : decode jM_Mo_make.2.1 259 = .ok (.aload_n 0, 1) := by decide +kernel
theorem d_Mo_make_260 : decode jM_Mo_make.2.1 260 = .ok (.getfield 22, 3) := by decide +kernel
theorem d_Mo_make_263 : decode jM_Mo_make.2.1 263 = .ok (.iload 6, 2) := by decide +kernel
theorem d_Mo_make_265 : decode jM_Mo_make.2.1 265 = .ok (.iload 5, 2) := by decide +kernel
theorem d_Mo_make_267 : decode jM_Mo_make.2.1 267 = .ok (.iconst 1, 1) := by decide +kernel
theorem d_Mo_make_268 : decode jM_Mo_make.2.1 268 = .ok (.iadd, 1) := by decide +kernel
theorem d_Mo_make_269 : decode jM_Mo_make.2.1 269 = .ok (.iastore, 1) := by decide +kernel
theorem d_Mo_make_270 : decode jM_Mo_make.2.1 270 = .ok (.aload_n 0, 1) := by decide +kernel
theorem d_Mo_make_271 : decode jM_Mo_make.2.1 271 = .ok (.getfield 25, 3) := by decide +kernel
theorem d_Mo_make_274 : decode jM_Mo_make.2.1 274 = .ok (.iload 6, 2) := by decide +kernel
theorem d_Mo_make_276 : decode jM_Mo_make.2.1 276 = .ok (.iload_n 1, 1) := by decide +kernel
theorem d_Mo_make_277 : decode jM_Mo_make.2.1 277 = .ok (.bipush 7, 2) := by decide +kernel
theorem d_Mo_make_279 : decode jM_Mo_make.2.1 279 = .ok (.if_icmp .ne 10, 3) := by decide +kernel
theorem d_Mo_make_282 : decode jM_Mo_make.2.1 282 = .ok (.aload_n 0, 1) := by decide +kernel
theorem d_Mo_make_283 : decode jM_Mo_make.2.1 283 = .ok (.getfield 85, 3) := by decide +kernel
theorem d_Mo_make_286 : decode jM_Mo_make.2.1 286 = .ok (.goto 4, 3) := by decide +kernel
theorem d_Mo_make_289 : decode jM_Mo_make.2.1 289 = .ok (.iconst 0, 1) := by decide +kernel
theorem d_Mo_make_290 : decode jM_Mo_make.2.1 290 = .ok (.iastore, 1) := by decide +kernel
theorem d_Mo_make_291 : decode jM_Mo_make.2.1 291 = .ok (.iconst 0, 1) := by decide +kernel
theorem d_Mo_make_292 : decode jM_Mo_make.2.1 292 = .ok (.istore 7, 2) := by decide +kernel
theorem d_Mo_make_294 : decode jM_Mo_make.2.1 294 = .ok (.iload 7, 2) := by decide +kernel
theorem d_Mo_make_296 : decode jM_Mo_make.2.1 296 = .ok (.aload_n 0, 1) := by decide +kernel
theorem d_Mo_make_297 : decode jM_Mo_make.2.1 297 = .ok (.getfield 25, 3) := by decide +kernel
theorem d_Mo_make_300 : decode jM_Mo_make.2.1 300 = .ok (.iload 6, 2) := by decide +kernel
theorem d_Mo_make_302 : decode jM_Mo_make.2.1 302 = .ok (.iaload, 1) := by decide +kernel
theorem d_Mo_make_303 : decode jM_Mo_make.2.1 303 = .ok (.if_icmp .ge 97, 3) := by decide +kernel
theorem d_Mo_make_306 : decode jM_Mo_make.2.1 306 = .ok (.aload_n 0, 1) := by decide +kernel
theorem d_Mo_make_307 : decode jM_Mo_make.2.1 307 = .ok (.getfield 28, 3) := by decide +kernel
theorem d_Mo_make_310 : decode jM_Mo_make.2.1 310 = .ok (.iconst 3, 1) := by decide +kernel
theorem d_Mo_make_311 : decode jM_Mo_make.2.1 311 = .ok (.iload 6, 2) := by decide +kernel
theorem d_Mo_make_313 : decode jM_Mo_make.2.1 313 = .ok (.imul, 1) := by decide +kernel
theorem d_Mo_make_314 : decode jM_Mo_make.2.1 314 = .ok (.iload 7, 2) := by decide +kernel
theorem d_Mo_make_316 : decode jM_Mo_make.2.1 316 = .ok (.iadd, 1) := by decide +kernel
theorem d_Mo_make_317 : decode jM_Mo_make.2.1 317 = .ok (.aload_n 0, 1) := by decide +kernel
theorem d_Mo_make_318 : decode jM_Mo_make.2.1 318 = .ok (.getfield 28, 3) := by decide +kernel
theorem d_Mo_make_321 : decode jM_Mo_make.2.1 321 = .ok (.bipush 72, 2) := by decide +kernel
theorem d_Mo_make_323 : decode jM_Mo_make.2.1 323 = .ok (.iload 7, 2) := by decide +kernel
theorem d_Mo_make_325 : decode jM_Mo_make.2.1 325 = .ok (.iadd, 1) := by decide +kernel
theorem d_Mo_make_326 : decode jM_Mo_make.2.1 326 = .ok (.iaload, 1) := by decide +kernel
theorem d_Mo_make_327 : decode jM_Mo_make.2.1 327 = .ok (.iastore, 1) := by decide +kernel
theorem d_Mo_make_328 : decode jM_Mo_make.2.1 328 = .ok (.aload_n 0, 1) := by decide +kernel
theorem d_Mo_make_329 : decode jM_Mo_make.2.1 329 = .ok (.getfield 31, 3) := by decide +kernel
theorem d_Mo_make_332 : decode jM_Mo_make.2.1 332 = .ok (.iconst 3, 1) := by decide +kernel
theorem d_Mo_make_333 : decode jM_Mo_make.2.1 333 = .ok (.iload 6, 2) := by decide +kernel
theorem d_Mo_make_335 : decode jM_Mo_make.2.1 335 = .ok (.imul, 1) := by decide +kernel
theorem d_Mo_make_336 : decode jM_Mo_make.2.1 336 = .ok (.iload 7, 2) := by decide +kernel
theorem d_Mo_make_338 : decode jM_Mo_make.2.1 338 = .ok (.iadd, 1) := by decide +kernel
theorem d_Mo_make_339 : decode jM_Mo_make.2.1 339 = .ok (.aload_n 0, 1) := by decide +kernel
theorem d_Mo_make_340 : decode jM_Mo_make.2.1 340 = .ok (.getfield 31, 3) := by decide +kernel
theorem d_Mo_make_343 : decode jM_Mo_make.2.1 343 = .ok (.bipush 72, 2) := by decide +kernel
theorem d_Mo_make_345 : decode jM_Mo_make.2.1 345 = .ok (.iload 7, 2) := by decide +kernel
theorem d_Mo_make_347 : decode jM_Mo_make.2.1 347 = .ok (.iadd, 1) := by decide +kernel
theorem d_Mo_make_348 : decode jM_Mo_make.2.1 348 = .ok (.iaload, 1) := by decide +kernel
theorem d_Mo_make_349 : decode jM_Mo_make.2.1 349 = .ok (.iastore, 1) := by decide +kernel
theorem d_Mo_make_350 : decode jM_Mo_make.2.1 350 = .ok (.aload_n 0, 1) := by decide +kernel
theorem d_Mo_make_351 : decode jM_Mo_make.2.1 351 = .ok (.getfield 34, 3) := by decide +kernel
theorem d_Mo_make_354 : decode jM_Mo_make.2.1 354 = .ok (.iconst 3, 1) := by decide +kernel
theorem d_Mo_make_355 : decode jM_Mo_make.2.1 355 = .ok (.iload 6, 2) := by decide +kernel
theorem d_Mo_make_357 : decode jM_Mo_make.2.1 357 = .ok (.imul, 1) := by decide +kernel
theorem d_Mo_make_358 : decode jM_Mo_make.2.1 358 = .ok (.iload 7, 2) := by decide +kernel
theorem d_Mo_make_360 : decode jM_Mo_make.2.1 360 = .ok (.iadd, 1) := by decide +kernel
theorem d_Mo_make_361 : decode jM_Mo_make.2.1 361 = .ok (.aload_n 0, 1) := by decide +kernel
theorem d_Mo_make_362 : decode jM_Mo_make.2.1 362 = .ok (.getfield 34, 3) := by decide +kernel
theorem d_Mo_make_365 : decode jM_Mo_make.2.1 365 = .ok (.bipush 72, 2) := by decide +kernel
theorem d_Mo_make_367 : decode jM_Mo_make.2.1 367 = .ok (.iload 7, 2) := by decide +kernel
theorem d_Mo_make_369 : decode jM_Mo_make.2.1 369 = .ok (.iadd, 1) := by decide +kernel
theorem d_Mo_make_370 : decode jM_Mo_make.2.1 370 = .ok (.baload, 1) := by decide +kernel
theorem d_Mo_make_371 : decode jM_Mo_make.2.1 371 = .ok (.bastore, 1) := by decide +kernel
theorem d_Mo_make_372 : decode jM_Mo_make.2.1 372 = .ok (.aload_n 0, 1) := by decide +kernel
theorem d_Mo_make_373 : decode jM_Mo_make.2.1 373 = .ok (.getfield 38, 3) := by decide +kernel
theorem d_Mo_make_376 : decode jM_Mo_make.2.1 376 = .ok (.iconst 3, 1) := by decide +kernel
theorem d_Mo_make_377 : decode jM_Mo_make.2.1 377 = .ok (.iload 6, 2) := by decide +kernel
theorem d_Mo_make_379 : decode jM_Mo_make.2.1 379 = .ok (.imul, 1) := by decide +kernel
theorem d_Mo_make_380 : decode jM_Mo_make.2.1 380 = .ok (.iload 7, 2) := by decide +kernel
theorem d_Mo_make_382 : decode jM_Mo_make.2.1 382 = .ok (.iadd, 1) := by decide +kernel
theorem d_Mo_make_383 : decode jM_Mo_make.2.1 383 = .ok (.aload_n 0, 1) := by decide +kernel
theorem d_Mo_make_384 : decode jM_Mo_make.2.1 384 = .ok (.getfield 38, 3) := by decide +kernel
theorem d_Mo_make_387 : decode jM_Mo_make.2.1 387 = .ok (.bipush 72, 2) := by decide +kernel
theorem d_Mo_make_389 : decode jM_Mo_make.2.1 389 = .ok (.iload 7, 2) := by decide +kernel
theorem d_Mo_make_391 : decode jM_Mo_make.2.1 391 = .ok (.iadd, 1) := by decide +kernel
theorem d_Mo_make_392 : decode jM_Mo_make.2.1 392 = .ok (.laload, 1) := by decide +kernel
theorem d_Mo_make_393 : decode jM_Mo_make.2.1 393 = .ok (.lastore, 1) := by decide +kernel
theorem d_Mo_make_394 : decode jM_Mo_make.2.1 394 = .ok (.iinc 7 1, 3) := by decide +kernel
theorem d_Mo_make_397 : decode jM_Mo_make.2.1 397 = .ok (.goto (-103), 3) := by decide +kernel
theorem d_Mo_make_400 : decode jM_Mo_make.2.1 400 = .ok (.aload_n 0, 1) := by decide +kernel
theorem d_Mo_make_401 : decode jM_Mo_make.2.1 401 = .ok (.iload_n 1, 1) := by decide +kernel
theorem d_Mo_make_402 : decode jM_Mo_make.2.1 402 = .ok (.bipush 7, 2) := by decide +kernel
theorem d_Mo_make_404 : decode jM_Mo_make.2.1 404 = .ok (.if_icmp .ne 7, 3) := by decide +kernel
theorem d_Mo_make_407 : decode jM_Mo_make.2.1 407 = .ok (.iconst 0, 1) := by decide +kernel
theorem d_Mo_make_408 : decode jM_Mo_make.2.1 408 = .ok (.goto 7, 3) := by decide +kernel
theorem d_Mo_make_411 : decode jM_Mo_make.2.1 411 = .ok (.aload_n 0, 1) := by decide +kernel
theorem d_Mo_make_412 : decode jM_Mo_make.2.1 412 = .ok (.getfield 85, 3) := by decide +kernel
theorem d_Mo_make_415 : decode jM_Mo_make.2.1 415 = .ok (.putfield 85, 3) := by decide +kernel
theorem d_Mo_make_418 : decode jM_Mo_make.2.1 418 = .ok (.iconst 0, 1) := by decide +kernel
theorem d_Mo_make_419 : decode jM_Mo_make.2.1 419 = .ok (.istore 7, 2) := by decide +kernel
theorem d_Mo_make_421 : decode jM_Mo_make.2.1 421 = .ok (.iload 7, 2) := by decide +kernel
theorem d_Mo_make_423 : decode jM_Mo_make.2.1 423 = .ok (.iload 6, 2) := by decide +kernel
theorem d_Mo_make_425 : decode jM_Mo_make.2.1 425 = .ok (.if_icmp .ge 17, 3) := by decide +kernel
theorem d_Mo_make_428 : decode jM_Mo_make.2.1 428 = .ok (.aload_n 0, 1) := by decide +kernel
theorem d_Mo_make_429 : decode jM_Mo_make.2.1 429 = .ok (.iload 7, 2) := by decide +kernel
theorem d_Mo_make_431 : decode jM_Mo_make.2.1 431 = .ok (.iload 6, 2) := by decide +kernel
theorem d_Mo_make_433 : decode jM_Mo_make.2.1 433 = .ok (.invokevirtual 106, 3) := by decide +kernel
theorem d_Mo_make_436 : decode jM_Mo_make.2.1 436 = .ok (.iinc 7 1, 3) := by decide +kernel
theorem d_Mo_make_439 : decode jM_Mo_make.2.1 439 = .ok (.goto (-18), 3) := by decide +kernel
theorem d_Mo_make_442 : decode jM_Mo_make.2.1 442 = .ok (.iconst 0, 1) := by decide +kernel
theorem d_Mo_make_443 : decode jM_Mo_make.2.1 443 = .ok (.istore 7, 2) := by decide +kernel
theorem d_Mo_make_445 : decode jM_Mo_make.2.1 445 = .ok (.iload 7, 2) := by decide +kernel
theorem d_Mo_make_447 : decode jM_Mo_make.2.1 447 = .ok (.iload 6, 2) := by decide +kernel
theorem d_Mo_make_449 : decode jM_Mo_make.2.1 449 = .ok (.if_icmp .gt 17, 3) := by decide +kernel
theorem d_Mo_make_452 : decode jM_Mo_make.2.1 452 = .ok (.aload_n 0, 1) := by decide +kernel
theorem d_Mo_make_453 : decode jM_Mo_make.2.1 453 = .ok (.iload 6, 2) := by decide +kernel
theorem d_Mo_make_455 : decode jM_Mo_make.2.1 455 = .ok (.iload 7, 2) := by decide +kernel
theorem d_Mo_make_457 : decode jM_Mo_make.2.1 457 = .ok (.invokevirtual 106, 3) := by decide +kernel
theorem d_Mo_make_460 : decode jM_Mo_make.2.1 460 = .ok (.iinc 7 1, 3) := by decide +kernel
theorem d_Mo_make_463 : decode jM_Mo_make.2.1 463 = .ok (.goto (-18), 3) := by decide +kernel
theorem d_Mo_make_466 : decode jM_Mo_make.2.1 466 = .ok (.iload 6, 2) := by decide +kernel
theorem d_Mo_make_468 : decode jM_Mo_make.2.1 468 = .ok (.ireturn, 1) := by decide +kernel
theorem d_Mo_canRead_0 : decode jM_Mo_canRead.2.1 0 = .ok (.aload_n 0, 1) := by decide +kernel
theorem d_Mo_canRead_1 : decode jM_Mo_canRead.2.1 1 = .ok (.iload_n 1, 1) := by decide +kernel
theorem d_Mo_canRead_2 : decode jM_Mo_canRead.2.1 2 = .ok (.invokevirtual 92, 3) := by decide +kernel
theorem d_Mo_canRead_5 : decode jM_Mo_canRead.2.1 5 = .ok (.ifCond .ne 29, 3) := by decide +kernel
theorem d_Mo_canRead_8 : decode jM_Mo_canRead.2.1 8 = .ok (.aload_n 0, 1) := by decide +kernel
theorem d_Mo_canRead_9 : decode jM_Mo_canRead.2.1 9 = .ok (.iload_n 2, 1) := by decide +kernel
theorem d_Mo_canRead_10 : decode jM_Mo_canRead.2.1 10 = .ok (.invokevirtual 92, 3) := by decide +kernel
theorem d_Mo_canRead_13 : decode jM_Mo_canRead.2.1 13 = .ok (.ifCond .ne 21, 3) := by decide +kernel
theorem d_Mo_canRead_16 : decode jM_Mo_canRead.2.1 16 = .ok (.aload_n 0, 1) := by decide +kernel
theorem d_Mo_canRead_17 : decode jM_Mo_canRead.2.1 17 = .ok (.getfield 45, 3) := by decide +kernel
theorem d_Mo_canRead_20 : decode jM_Mo_canRead.2.1 20 = .ok (.bipush 24, 2) := by decide +kernel
theorem d_Mo_canRead_22 : decode jM_Mo_canRead.2.1 22 = .ok (.iload_n 1, 1) := by decide +kernel
theorem d_Mo_canRead_23 : decode jM_Mo_canRead.2.1 23 = .ok (.imul, 1) := by decide +kernel
theorem d_Mo_canRead_24 : decode jM_Mo_canRead.2.1 24 = .ok (.iload_n 2, 1) := by decide +kernel
theorem d_Mo_canRead_25 : decode jM_Mo_canRead.2.1 25 = .ok (.iadd, 1) := by decide +kernel
theorem d_Mo_canRead_26 : decode jM_Mo_canRead.2.1 26 = .ok (.baload, 1) := by decide +kernel
theorem d_Mo_canRead_27 : decode jM_Mo_canRead.2.1 27 = .ok (.ifCond .eq 7, 3) := by decide +kernel
theorem d_Mo_canRead_30 : decode jM_Mo_canRead.2.1 30 = .ok (.iconst 1, 1) := by decide +kernel
theorem d_Mo_canRead_31 : decode jM_Mo_canRead.2.1 31 = .ok (.goto 4, 3) := by decide +kernel
theorem d_Mo_canRead_34 : decode jM_Mo_canRead.2.1 34 = .ok (.iconst 0, 1) := by decide +kernel
theorem d_Mo_canRead_35 : decode jM_Mo_canRead.2.1 35 = .ok (.ireturn, 1) := by decide +kernel
theorem d_Mo_fieldsCome_0 : decode jM_Mo_fieldsCome.2.1 0 = .ok (.iload_n 2, 1) := by decide +kernel
theorem d_Mo_fieldsCome_1 : decode jM_Mo_fieldsCome.2.1 1 = .ok (.istore_n 3, 1) := by decide +kernel
theorem d_Mo_fieldsCome_2 : decode jM_Mo_fieldsCome.2.1 2 = .ok (.aload_n 0, 1) := by decide +kernel
theorem d_Mo_fieldsCome_3 : decode jM_Mo_fieldsCome.2.1 3 = .ok (.getfield 25, 3) := by decide +kernel
theorem d_Mo_fieldsCome_6 : decode jM_Mo_fieldsCome.2.1 6 = .ok (.iload_n 1, 1) := by decide +kernel
theorem d_Mo_fieldsCome_7 : decode jM_Mo_fieldsCome.2.1 7 = .ok (.iaload, 1) := by decide +kernel
theorem d_Mo_fieldsCome_8 : decode jM_Mo_fieldsCome.2.1 8 = .ok (.iconst 1, 1) := by decide +kernel
theorem d_Mo_fieldsCome_9 : decode jM_Mo_fieldsCome.2.1 9 = .ok (.isub, 1) := by decide +kernel
theorem d_Mo_fieldsCome_10 : decode jM_Mo_fieldsCome.2.1 10 = .ok (.istore 4, 2) := by decide +kernel
theorem d_Mo_fieldsCome_12 : decode jM_Mo_fieldsCome.2.1 12 = .ok (.iload 4, 2) := by decide +kernel
theorem d_Mo_fieldsCome_14 : decode jM_Mo_fieldsCome.2.1 14 = .ok (.ifCond .lt 29, 3) := by decide +kernel
theorem d_Mo_fieldsCome_17 : decode jM_Mo_fieldsCome.2.1 17 = .ok (.aload_n 0, 1) := by decide +kernel
theorem d_Mo_fieldsCome_18 : decode jM_Mo_fieldsCome.2.1 18 = .ok (.getfield 69, 3) := by decide +kernel
theorem d_Mo_fieldsCome_21 : decode jM_Mo_fieldsCome.2.1 21 = .ok (.iload_n 3, 1) := by decide +kernel
theorem d_Mo_fieldsCome_22 : decode jM_Mo_fieldsCome.2.1 22 = .ok (.aload_n 0, 1) := by decide +kernel
theorem d_Mo_fieldsCome_23 : decode jM_Mo_fieldsCome.2.1 23 = .ok (.getfield 31, 3) := by decide +kernel
theorem d_Mo_fieldsCome_26 : decode jM_Mo_fieldsCome.2.1 26 = .ok (.iconst 3, 1) := by decide +kernel
theorem d_Mo_fieldsCome_27 : decode jM_Mo_fieldsCome.2.1 27 = .ok (.iload_n 1, 1) := by decide +kernel
theorem d_Mo_fieldsCome_28 : decode jM_Mo_fieldsCome.2.1 28 = .ok (.imul, 1) := by decide +kernel
theorem d_Mo_fieldsCome_29 : decode jM_Mo_fieldsCome.2.1 29 = .ok (.iload 4, 2) := by decide +kernel
theorem d_Mo_fieldsCome_31 : decode jM_Mo_fieldsCome.2.1 31 = .ok (.iadd, 1) := by decide +kernel
theorem d_Mo_fieldsCome_32 : decode jM_Mo_fieldsCome.2.1 32 = .ok (.iaload, 1) := by decide +kernel
theorem d_Mo_fieldsCome_33 : decode jM_Mo_fieldsCome.2.1 33 = .ok (.iastore, 1) := by decide +kernel
theorem d_Mo_fieldsCome_34 : decode jM_Mo_fieldsCome.2.1 34 = .ok (.iinc 3 1, 3) := by decide +kernel
theorem d_Mo_fieldsCome_37 : decode jM_Mo_fieldsCome.2.1 37 = .ok (.iinc 4 (-1), 3) := by decide +kernel
theorem d_Mo_fieldsCome_40 : decode jM_Mo_fieldsCome.2.1 40 = .ok (.goto (-28), 3) := by decide +kernel
theorem d_Mo_fieldsCome_43 : decode jM_Mo_fieldsCome.2.1 43 = .ok (.iload_n 3, 1) := by decide +kernel
theorem d_Mo_fieldsCome_44 : decode jM_Mo_fieldsCome.2.1 44 = .ok (.ireturn, 1) := by decide +kernel
theorem d_Mo_span_0 : decode jM_Mo_span.2.1 0 = .ok (.iconst 1, 1) := by decide +kernel
theorem d_Mo_span_1 : decode jM_Mo_span.2.1 1 = .ok (.istore 4, 2) := by decide +kernel
theorem d_Mo_span_3 : decode jM_Mo_span.2.1 3 = .ok (.iload_n 2, 1) := by decide +kernel
theorem d_Mo_span_4 : decode jM_Mo_span.2.1 4 = .ok (.istore 5, 2) := by decide +kernel
theorem d_Mo_span_6 : decode jM_Mo_span.2.1 6 = .ok (.aload_n 0, 1) := by decide +kernel
theorem d_Mo_span_7 : decode jM_Mo_span.2.1 7 = .ok (.getfield 69, 3) := by decide +kernel
theorem d_Mo_span_10 : decode jM_Mo_span.2.1 10 = .ok (.iconst 0, 1) := by decide +kernel
theorem d_Mo_span_11 : decode jM_Mo_span.2.1 11 = .ok (.iload_n 1, 1) := by decide +kernel
theorem d_Mo_span_12 : decode jM_Mo_span.2.1 12 = .ok (.iastore, 1) := by decide +kernel
theorem d_Mo_span_13 : decode jM_Mo_span.2.1 13 = .ok (.iload 4, 2) := by decide +kernel
theorem d_Mo_span_15 : decode jM_Mo_span.2.1 15 = .ok (.ifCond .le 214, 3) := by decide +kernel
theorem d_Mo_span_18 : decode jM_Mo_span.2.1 18 = .ok (.iinc 4 (-1), 3) := by decide +kernel
theorem d_Mo_span_21 : decode jM_Mo_span.2.1 21 = .ok (.aload_n 0, 1) := by decide +kernel
theorem d_Mo_span_22 : decode jM_Mo_span.2.1 22 = .ok (.getfield 69, 3) := by decide +kernel
theorem d_Mo_span_25 : decode jM_Mo_span.2.1 25 = .ok (.iload 4, 2) := by decide +kernel
theorem d_Mo_span_27 : decode jM_Mo_span.2.1 27 = .ok (.iaload, 1) := by decide +kernel
theorem d_Mo_span_28 : decode jM_Mo_span.2.1 28 = .ok (.istore 6, 2) := by decide +kernel
theorem d_Mo_span_30 : decode jM_Mo_span.2.1 30 = .ok (.aload_n 0, 1) := by decide +kernel
theorem d_Mo_span_31 : decode jM_Mo_span.2.1 31 = .ok (.getfield 7, 3) := by decide +kernel
theorem d_Mo_span_34 : decode jM_Mo_span.2.1 34 = .ok (.iload 6, 2) := by decide +kernel
theorem d_Mo_span_36 : decode jM_Mo_span.2.1 36 = .ok (.iaload, 1) := by decide +kernel
theorem d_Mo_span_37 : decode jM_Mo_span.2.1 37 = .ok (.istore 7, 2) := by decide +kernel
theorem d_Mo_span_39 : decode jM_Mo_span.2.1 39 = .ok (.iload 7, 2) := by decide +kernel
theorem d_Mo_span_41 : decode jM_Mo_span.2.1 41 = .ok (.bipush 7, 2) := by decide +kernel
theorem d_Mo_span_43 : decode jM_Mo_span.2.1 43 = .ok (.if_icmp .ne 16, 3) := by decide +kernel
theorem d_Mo_span_46 : decode jM_Mo_span.2.1 46 = .ok (.aload_n 0, 1) := by decide +kernel
theorem d_Mo_span_47 : decode jM_Mo_span.2.1 47 = .ok (.iload 6, 2) := by decide +kernel
theorem d_Mo_span_49 : decode jM_Mo_span.2.1 49 = .ok (.iload 4, 2) := by decide +kernel
theorem d_Mo_span_51 : decode jM_Mo_span.2.1 51 = .ok (.invokevirtual 123, 3) := by decide +kernel
theorem d_Mo_span_54 : decode jM_Mo_span.2.1 54 = .ok (.istore 4, 2) := by decide +kernel
theorem d_Mo_span_56 : decode jM_Mo_span.2.1 56 = .ok (.goto 170, 3) := by decide +kernel
theorem d_Mo_span_59 : decode jM_Mo_span.2.1 59 = .ok (.iload 7, 2) := by decide +kernel
theorem d_Mo_span_61 : decode jM_Mo_span.2.1 61 = .ok (.ifCond .eq 165, 3) := by decide +kernel
theorem d_Mo_span_64 : decode jM_Mo_span.2.1 64 = .ok (.iload 5, 2) := by decide +kernel
theorem d_Mo_span_66 : decode jM_Mo_span.2.1 66 = .ok (.iload_n 3, 1) := by decide +kernel
theorem d_Mo_span_67 : decode jM_Mo_span.2.1 67 = .ok (.if_icmp .lt 5, 3) := by decide +kernel
theorem d_Mo_span_70 : decode jM_Mo_span.2.1 70 = .ok (.iconst (-1), 1) := by decide +kernel
theorem d_Mo_span_71 : decode jM_Mo_span.2.1 71 = .ok (.ireturn, 1) := by decide +kernel
theorem d_Mo_span_72 : decode jM_Mo_span.2.1 72 = .ok (.aload_n 0, 1) := by decide +kernel
theorem d_Mo_span_73 : decode jM_Mo_span.2.1 73 = .ok (.getfield 66, 3) := by decide +kernel
theorem d_Mo_span_76 : decode jM_Mo_span.2.1 76 = .ok (.iload 5, 2) := by decide +kernel
theorem d_Mo_span_78 : decode jM_Mo_span.2.1 78 = .ok (.laload, 1) := by decide +kernel
theorem d_Mo_span_79 : decode jM_Mo_span.2.1 79 = .ok (.lstore 8, 2) := by decide +kernel
theorem d_Mo_span_81 : decode jM_Mo_span.2.1 81 = .ok (.iinc 5 1, 3) := by decide +kernel
theorem d_Mo_span_84 : decode jM_Mo_span.2.1 84 = .ok (.iload 7, 2) := by decide +kernel
theorem d_Mo_span_86 : decode jM_Mo_span.2.1 86 = .ok (.bipush 6, 2) := by decide +kernel
theorem d_Mo_span_88 : decode jM_Mo_span.2.1 88 = .ok (.if_icmp .ne 56, 3) := by decide +kernel
theorem d_Mo_span_91 : decode jM_Mo_span.2.1 91 = .ok (.lload 8, 2) := by decide +kernel
theorem d_Mo_span_93 : decode jM_Mo_span.2.1 93 = .ok (.lconst 0, 1) := by decide +kernel
theorem d_Mo_span_94 : decode jM_Mo_span.2.1 94 = .ok (.lcmp, 1) := by decide +kernel
theorem d_Mo_span_95 : decode jM_Mo_span.2.1 95 = .ok (.ifCond .eq 12, 3) := by decide +kernel
theorem d_Mo_span_98 : decode jM_Mo_span.2.1 98 = .ok (.lload 8, 2) := by decide +kernel
theorem d_Mo_span_100 : decode jM_Mo_span.2.1 100 = .ok (.lconst 1, 1) := by decide +kernel
theorem d_Mo_span_101 : decode jM_Mo_span.2.1 101 = .ok (.lcmp, 1) := by decide +kernel
theorem d_Mo_span_102 : decode jM_Mo_span.2.1 102 = .ok (.ifCond .eq 5, 3) := by decide +kernel
theorem d_Mo_span_105 : decode jM_Mo_span.2.1 105 = .ok (.iconst (-1), 1) := by decide +kernel
theorem d_Mo_span_106 : decode jM_Mo_span.2.1 106 = .ok (.ireturn, 1) := by decide +kernel
theorem d_Mo_span_107 : decode jM_Mo_span.2.1 107 = .ok (.aload_n 0, 1) := by decide +kernel
theorem d_Mo_span_108 : decode jM_Mo_span.2.1 108 = .ok (.getfield 69, 3) := by decide +kernel
theorem d_Mo_span_111 : decode jM_Mo_span.2.1 111 = .ok (.iload 4, 2) := by decide +kernel
theorem d_Mo_span_113 : decode jM_Mo_span.2.1 113 = .ok (.lload 8, 2) := by decide +kernel
theorem d_Mo_span_115 : decode jM_Mo_span.2.1 115 = .ok (.lconst 0, 1) := by decide +kernel
theorem d_Mo_span_116 : decode jM_Mo_span.2.1 116 = .ok (.lcmp, 1) := by decide +kernel
theorem d_Mo_span_117 : decode jM_Mo_span.2.1 117 = .ok (.ifCond .ne 13, 3) := by decide +kernel
theorem d_Mo_span_120 : decode jM_Mo_span.2.1 120 = .ok (.aload_n 0, 1) := by decide +kernel
theorem d_Mo_span_121 : decode jM_Mo_span.2.1 121 = .ok (.getfield 16, 3) := by decide +kernel
theorem d_Mo_span_124 : decode jM_Mo_span.2.1 124 = .ok (.iload 6, 2) := by decide +kernel
theorem d_Mo_span_126 : decode jM_Mo_span.2.1 126 = .ok (.iaload, 1) := by decide +kernel
theorem d_Mo_span_127 : decode jM_Mo_span.2.1 127 = .ok (.goto 10, 3) := by decide +kernel
theorem d_Mo_span_130 : decode jM_Mo_span.2.1 130 = .ok (.aload_n 0, 1) := by decide +kernel
theorem d_Mo_span_131 : decode jM_Mo_span.2.1 131 = .ok (.getfield 19, 3) := by decide +kernel
theorem d_Mo_span_134 : decode jM_Mo_span.2.1 134 = .ok (.iload 6, 2) := by decide +kernel
theorem d_Mo_span_136 : decode jM_Mo_span.2.1 136 = .ok (.iaload, 1) := by decide +kernel
theorem d_Mo_span_137 : decode jM_Mo_span.2.1 137 = .ok (.iastore, 1) := by decide +kernel
theorem d_Mo_span_138 : decode jM_Mo_span.2.1 138 = .ok (.iinc 4 1, 3) := by decide +kernel
theorem d_Mo_span_141 : decode jM_Mo_span.2.1 141 = .ok (.goto 85, 3) := by decide +kernel
theorem d_Mo_span_144 : decode jM_Mo_span.2.1 144 = .ok (.iload 7, 2) := by decide +kernel
theorem d_Mo_span_146 : decode jM_Mo_span.2.1 146 = .ok (.iconst 5, 1) := by decide +kernel
theorem d_Mo_span_147 : decode jM_Mo_span.2.1 147 = .ok (.if_icmp .ne 66, 3) := by decide +kernel
theorem d_Mo_span_150 : decode jM_Mo_span.2.1 150 = .ok (.lload 8, 2) := by decide +kernel
theorem d_Mo_span_152 : decode jM_Mo_span.2.1 152 = .ok (.lconst 0, 1) := by decide +kernel
theorem d_Mo_span_153 : decode jM_Mo_span.2.1 153 = .ok (.lcmp, 1) := by decide +kernel
theorem d_Mo_span_154 : decode jM_Mo_span.2.1 154 = .ok (.ifCond .lt 12, 3) := by decide +kernel
theorem d_Mo_span_157 : decode jM_Mo_span.2.1 157 = .ok (.lload 8, 2) := by decide +kernel
theorem d_Mo_span_159 : decode jM_Mo_span.2.1 159 = .ok (.ldc2_w 126, 3) := by decide +kernel
theorem d_Mo_span_162 : decode jM_Mo_span.2.1 162 = .ok (.lcmp, 1) := by decide +kernel
theorem d_Mo_span_163 : decode jM_Mo_span.2.1 163 = .ok (.ifCond .le 5, 3) := by decide +kernel
theorem d_Mo_span_166 : decode jM_Mo_span.2.1 166 = .ok (.iconst (-1), 1) := by decide +kernel
theorem d_Mo_span_167 : decode jM_Mo_span.2.1 167 = .ok (.ireturn, 1) := by decide +kernel
theorem d_Mo_span_168 : decode jM_Mo_span.2.1 168 = .ok (.iconst 0, 1) := by decide +kernel
theorem d_Mo_span_169 : decode jM_Mo_span.2.1 169 = .ok (.istore 10, 2) := by decide +kernel
theorem d_Mo_span_171 : decode jM_Mo_span.2.1 171 = .ok (.iload 10, 2) := by decide +kernel
theorem d_Mo_span_173 : decode jM_Mo_span.2.1 173 = .ok (.lload 8, 2) := by decide +kernel
theorem d_Mo_span_175 : decode jM_Mo_span.2.1 175 = .ok (.l2i, 1) := by decide +kernel
theorem d_Mo_span_176 : decode jM_Mo_span.2.1 176 = .ok (.if_icmp .ge 26, 3) := by decide +kernel
theorem d_Mo_span_179 : decode jM_Mo_span.2.1 179 = .ok (.aload_n 0, 1) := by decide +kernel
theorem d_Mo_span_180 : decode jM_Mo_span.2.1 180 = .ok (.getfield 69, 3) := by decide +kernel
theorem d_Mo_span_183 : decode jM_Mo_span.2.1 183 = .ok (.iload 4, 2) := by decide +kernel
theorem d_Mo_span_185 : decode jM_Mo_span.2.1 185 = .ok (.iload 10, 2) := by decide +kernel
theorem d_Mo_span_187 : decode jM_Mo_span.2.1 187 = .ok (.iadd, 1) := by decide +kernel
theorem d_Mo_span_188 : decode jM_Mo_span.2.1 188 = .ok (.aload_n 0, 1) := by decide +kernel
theorem d_Mo_span_189 : decode jM_Mo_span.2.1 189 = .ok (.getfield 16, 3) := by decide +kernel
theorem d_Mo_span_192 : decode jM_Mo_span.2.1 192 = .ok (.iload 6, 2) := by decide +kernel
theorem d_Mo_span_194 : decode jM_Mo_span.2.1 194 = .ok (.iaload, 1) := by decide +kernel
theorem d_Mo_span_195 : decode jM_Mo_span.2.1 195 = .ok (.iastore, 1) := by decide +kernel
theorem d_Mo_span_196 : decode jM_Mo_span.2.1 196 = .ok (.iinc 10 1, 3) := by decide +kernel
theorem d_Mo_span_199 : decode jM_Mo_span.2.1 199 = .ok (.goto (-28), 3) := by decide +kernel
theorem d_Mo_span_202 : decode jM_Mo_span.2.1 202 = .ok (.iload 4, 2) := by decide +kernel
theorem d_Mo_span_204 : decode jM_Mo_span.2.1 204 = .ok (.lload 8, 2) := by decide +kernel
theorem d_Mo_span_206 : decode jM_Mo_span.2.1 206 = .ok (.l2i, 1) := by decide +kernel
theorem d_Mo_span_207 : decode jM_Mo_span.2.1 207 = .ok (.iadd, 1) := by decide +kernel
theorem d_Mo_span_208 : decode jM_Mo_span.2.1 208 = .ok (.istore 4, 2) := by decide +kernel
theorem d_Mo_span_210 : decode jM_Mo_span.2.1 210 = .ok (.goto 16, 3) := by decide +kernel
theorem d_Mo_span_213 : decode jM_Mo_span.2.1 213 = .ok (.aload_n 0, 1) := by decide +kernel
theorem d_Mo_span_214 : decode jM_Mo_span.2.1 214 = .ok (.iload 6, 2) := by decide +kernel
theorem d_Mo_span_216 : decode jM_Mo_span.2.1 216 = .ok (.lload 8, 2) := by decide +kernel
theorem d_Mo_span_218 : decode jM_Mo_span.2.1 218 = .ok (.invokevirtual 79, 3) := by decide +kernel
theorem d_Mo_span_221 : decode jM_Mo_span.2.1 221 = .ok (.ifCond .ne 5, 3) := by decide +kernel
theorem d_Mo_span_224 : decode jM_Mo_span.2.1 224 = .ok (.iconst (-1), 1) := by decide +kernel
theorem d_Mo_span_225 : decode jM_Mo_span.2.1 225 = .ok (.ireturn, 1) := by decide +kernel
theorem d_Mo_span_226 : decode jM_Mo_span.2.1 226 = .ok (.goto (-213), 3) := by decide +kernel
theorem d_Mo_span_229 : decode jM_Mo_span.2.1 229 = .ok (.iload 5, 2) := by decide +kernel
theorem d_Mo_span_231 : decode jM_Mo_span.2.1 231 = .ok (.iload_n 2, 1) := by decide +kernel
theorem d_Mo_span_232 : decode jM_Mo_span.2.1 232 = .ok (.isub, 1) := by decide +kernel
theorem d_Mo_span_233 : decode jM_Mo_span.2.1 233 = .ok (.ireturn, 1) := by decide +kernel
theorem d_Mo_putByte_0 : decode jM_Mo_putByte.2.1 0 = .ok (.aload_n 0, 1) := by decide +kernel
theorem d_Mo_putByte_1 : decode jM_Mo_putByte.2.1 1 = .ok (.getfield 60, 3) := by decide +kernel
theorem d_Mo_putByte_4 : decode jM_Mo_putByte.2.1 4 = .ok (.aload_n 0, 1) := by decide +kernel
theorem d_Mo_putByte_5 : decode jM_Mo_putByte.2.1 5 = .ok (.getfield 128, 3) := by decide +kernel
theorem d_Mo_putByte_8 : decode jM_Mo_putByte.2.1 8 = .ok (.iload_n 1, 1) := by decide +kernel
theorem d_Mo_putByte_9 : decode jM_Mo_putByte.2.1 9 = .ok (.iastore, 1) := by decide +kernel
theorem d_Mo_putByte_10 : decode jM_Mo_putByte.2.1 10 = .ok (.aload_n 0, 1) := by decide +kernel
theorem d_Mo_putByte_11 : decode jM_Mo_putByte.2.1 11 = .ok (.dup, 1) := by decide +kernel
theorem d_Mo_putByte_12 : decode jM_Mo_putByte.2.1 12 = .ok (.getfield 128, 3) := by decide +kernel
theorem d_Mo_putByte_15 : decode jM_Mo_putByte.2.1 15 = .ok (.iconst 1, 1) := by decide +kernel
theorem d_Mo_putByte_16 : decode jM_Mo_putByte.2.1 16 = .ok (.iadd, 1) := by decide +kernel
theorem d_Mo_putByte_17 : decode jM_Mo_putByte.2.1 17 = .ok (.putfield 128, 3) := by decide +kernel
theorem d_Mo_putByte_20 : decode jM_Mo_putByte.2.1 20 = .ok (.return_, 1) := by decide +kernel
theorem d_Mo_putVarint_0 : decode jM_Mo_putVarint.2.1 0 = .ok (.lload_n 1, 1) := by decide +kernel
theorem d_Mo_putVarint_1 : decode jM_Mo_putVarint.2.1 1 = .ok (.lconst 0, 1) := by decide +kernel
theorem d_Mo_putVarint_2 : decode jM_Mo_putVarint.2.1 2 = .ok (.lcmp, 1) := by decide +kernel
theorem d_Mo_putVarint_3 : decode jM_Mo_putVarint.2.1 3 = .ok (.ifCond .ge 13, 3) := by decide +kernel
theorem d_Mo_putVarint_6 : decode jM_Mo_putVarint.2.1 6 = .ok (.lload_n 1, 1) := by decide +kernel
theorem d_Mo_putVarint_7 : decode jM_Mo_putVarint.2.1 7 = .ok (.iconst 1, 1) := by decide +kernel
theorem d_Mo_putVarint_8 : decode jM_Mo_putVarint.2.1 8 = .ok (.lshl, 1) := by decide +kernel
theorem d_Mo_putVarint_9 : decode jM_Mo_putVarint.2.1 9 = .ok (.ldc2_w 131, 3) := by decide +kernel
theorem d_Mo_putVarint_12 : decode jM_Mo_putVarint.2.1 12 = .ok (.lxor, 1) := by decide +kernel
theorem d_Mo_putVarint_13 : decode jM_Mo_putVarint.2.1 13 = .ok (.goto 6, 3) := by decide +kernel
theorem d_Mo_putVarint_16 : decode jM_Mo_putVarint.2.1 16 = .ok (.lload_n 1, 1) := by decide +kernel
theorem d_Mo_putVarint_17 : decode jM_Mo_putVarint.2.1 17 = .ok (.iconst 1, 1) := by decide +kernel
theorem d_Mo_putVarint_18 : decode jM_Mo_putVarint.2.1 18 = .ok (.lshl, 1) := by decide +kernel
theorem d_Mo_putVarint_19 : decode jM_Mo_putVarint.2.1 19 = .ok (.lstore_n 3, 1) := by decide +kernel
theorem d_Mo_putVarint_20 : decode jM_Mo_putVarint.2.1 20 = .ok (.lload_n 3, 1) := by decide +kernel
theorem d_Mo_putVarint_21 : decode jM_Mo_putVarint.2.1 21 = .ok (.ldc2_w 133, 3) := by decide +kernel
theorem d_Mo_putVarint_24 : decode jM_Mo_putVarint.2.1 24 = .ok (.land, 1) := by decide +kernel
theorem d_Mo_putVarint_25 : decode jM_Mo_putVarint.2.1 25 = .ok (.lconst 0, 1) := by decide +kernel
theorem d_Mo_putVarint_26 : decode jM_Mo_putVarint.2.1 26 = .ok (.lcmp, 1) := by decide +kernel
theorem d_Mo_putVarint_27 : decode jM_Mo_putVarint.2.1 27 = .ok (.ifCond .eq 25, 3) := by decide +kernel
theorem d_Mo_putVarint_30 : decode jM_Mo_putVarint.2.1 30 = .ok (.aload_n 0, 1) := by decide +kernel
theorem d_Mo_putVarint_31 : decode jM_Mo_putVarint.2.1 31 = .ok (.lload_n 3, 1) := by decide +kernel
theorem d_Mo_putVarint_32 : decode jM_Mo_putVarint.2.1 32 = .ok (.ldc2_w 135, 3) := by decide +kernel
theorem d_Mo_putVarint_35 : decode jM_Mo_putVarint.2.1 35 = .ok (.land, 1) := by decide +kernel
theorem d_Mo_putVarint_36 : decode jM_Mo_putVarint.2.1 36 = .ok (.l2i, 1) := by decide +kernel
theorem d_Mo_putVarint_37 : decode jM_Mo_putVarint.2.1 37 = .ok (.sipush 128, 3) := by decide +kernel
theorem d_Mo_putVarint_40 : decode jM_Mo_putVarint.2.1 40 = .ok (.iadd, 1) := by decide +kernel
theorem d_Mo_putVarint_41 : decode jM_Mo_putVarint.2.1 41 = .ok (.invokevirtual 137, 3) := by decide +kernel
theorem d_Mo_putVarint_44 : decode jM_Mo_putVarint.2.1 44 = .ok (.lload_n 3, 1) := by decide +kernel
theorem d_Mo_putVarint_45 : decode jM_Mo_putVarint.2.1 45 = .ok (.bipush 7, 2) := by decide +kernel
theorem d_Mo_putVarint_47 : decode jM_Mo_putVarint.2.1 47 = .ok (.lushr, 1) := by decide +kernel
theorem d_Mo_putVarint_48 : decode jM_Mo_putVarint.2.1 48 = .ok (.lstore_n 3, 1) := by decide +kernel
theorem d_Mo_putVarint_49 : decode jM_Mo_putVarint.2.1 49 = .ok (.goto (-29), 3) := by decide +kernel
theorem d_Mo_putVarint_52 : decode jM_Mo_putVarint.2.1 52 = .ok (.aload_n 0, 1) := by decide +kernel
theorem d_Mo_putVarint_53 : decode jM_Mo_putVarint.2.1 53 = .ok (.lload_n 3, 1) := by decide +kernel
theorem d_Mo_putVarint_54 : decode jM_Mo_putVarint.2.1 54 = .ok (.l2i, 1) := by decide +kernel
theorem d_Mo_putVarint_55 : decode jM_Mo_putVarint.2.1 55 = .ok (.invokevirtual 137, 3) := by decide +kernel
theorem d_Mo_putVarint_58 : decode jM_Mo_putVarint.2.1 58 = .ok (.return_, 1) := by decide +kernel
theorem d_Mo_below_0 : decode jM_Mo_below.2.1 0 = .ok (.iconst 0, 1) := by decide +kernel
theorem d_Mo_below_1 : decode jM_Mo_below.2.1 1 = .ok (.istore_n 2, 1) := by decide +kernel
theorem d_Mo_below_2 : decode jM_Mo_below.2.1 2 = .ok (.iconst 0, 1) := by decide +kernel
theorem d_Mo_below_3 : decode jM_Mo_below.2.1 3 = .ok (.istore_n 3, 1) := by decide +kernel
theorem d_Mo_below_4 : decode jM_Mo_below.2.1 4 = .ok (.iload_n 3, 1) := by decide +kernel
theorem d_Mo_below_5 : decode jM_Mo_below.2.1 5 = .ok (.iload_n 1, 1) := by decide +kernel
theorem d_Mo_below_6 : decode jM_Mo_below.2.1 6 = .ok (.if_icmp .ge 17, 3) := by decide +kernel
theorem d_Mo_below_9 : decode jM_Mo_below.2.1 9 = .ok (.iload_n 2, 1) := by decide +kernel
theorem d_Mo_below_10 : decode jM_Mo_below.2.1 10 = .ok (.iload_n 0, 1) := by decide +kernel
theorem d_Mo_below_11 : decode jM_Mo_below.2.1 11 = .ok (.iload_n 3, 1) := by decide +kernel
theorem d_Mo_below_12 : decode jM_Mo_below.2.1 12 = .ok (.ishr, 1) := by decide +kernel
theorem d_Mo_below_13 : decode jM_Mo_below.2.1 13 = .ok (.iconst 1, 1) := by decide +kernel
theorem d_Mo_below_14 : decode jM_Mo_below.2.1 14 = .ok (.iand, 1) := by decide +kernel
theorem d_Mo_below_15 : decode jM_Mo_below.2.1 15 = .ok (.iadd, 1) := by decide +kernel
theorem d_Mo_below_16 : decode jM_Mo_below.2.1 16 = .ok (.istore_n 2, 1) := by decide +kernel
theorem d_Mo_below_17 : decode jM_Mo_below.2.1 17 = .ok (.iinc 3 1, 3) := by decide +kernel
theorem d_Mo_below_20 : decode jM_Mo_below.2.1 20 = .ok (.goto (-16), 3) := by decide +kernel
theorem d_Mo_below_23 : decode jM_Mo_below.2.1 23 = .ok (.iload_n 2, 1) := by decide +kernel
theorem d_Mo_below_24 : decode jM_Mo_below.2.1 24 = .ok (.ireturn, 1) := by decide +kernel
theorem d_Mo_encode_0 : decode jM_Mo_encode.2.1 0 = .ok (.iconst 1, 1) := by decide +kernel
theorem d_Mo_encode_1 : decode jM_Mo_encode.2.1 1 = .ok (.istore_n 2, 1) := by decide +kernel
theorem d_Mo_encode_2 : decode jM_Mo_encode.2.1 2 = .ok (.iconst 0, 1) := by decide +kernel
theorem d_Mo_encode_3 : decode jM_Mo_encode.2.1 3 = .ok (.istore_n 3, 1) := by decide +kernel
theorem d_Mo_encode_4 : decode jM_Mo_encode.2.1 4 = .ok (.aload_n 0, 1) := by decide +kernel
theorem d_Mo_encode_5 : decode jM_Mo_encode.2.1 5 = .ok (.getfield 69, 3) := by decide +kernel
theorem d_Mo_encode_8 : decode jM_Mo_encode.2.1 8 = .ok (.iconst 0, 1) := by decide +kernel
theorem d_Mo_encode_9 : decode jM_Mo_encode.2.1 9 = .ok (.iload_n 1, 1) := by decide +kernel
theorem d_Mo_encode_10 : decode jM_Mo_encode.2.1 10 = .ok (.iastore, 1) := by decide +kernel
theorem d_Mo_encode_11 : decode jM_Mo_encode.2.1 11 = .ok (.iload_n 2, 1) := by decide +kernel
theorem d_Mo_encode_12 : decode jM_Mo_encode.2.1 12 = .ok (.ifCond .le 247, 3) := by decide +kernel
theorem d_Mo_encode_15 : decode jM_Mo_encode.2.1 15 = .ok (.iinc 2 (-1), 3) := by decide +kernel
theorem d_Mo_encode_18 : decode jM_Mo_encode.2.1 18 = .ok (.aload_n 0, 1) := by decide +kernel
theorem d_Mo_encode_19 : decode jM_Mo_encode.2.1 19 = .ok (.getfield 69, 3) := by decide +kernel
theorem d_Mo_encode_22 : decode jM_Mo_encode.2.1 22 = .ok (.iload_n 2, 1) := by decide +kernel
theorem d_Mo_encode_23 : decode jM_Mo_encode.2.1 23 = .ok (.iaload, 1) := by decide +kernel
theorem d_Mo_encode_24 : decode jM_Mo_encode.2.1 24 = .ok (.istore 4, 2) := by decide +kernel
theorem d_Mo_encode_26 : decode jM_Mo_encode.2.1 26 = .ok (.iload 4, 2) := by decide +kernel
theorem d_Mo_encode_28 : decode jM_Mo_encode.2.1 28 = .ok (.ifCond .ge 7, 3) := by decide +kernel
theorem d_Mo_encode_31 : decode jM_Mo_encode.2.1 31 = .ok (.iconst (-1), 1) := by decide +kernel
theorem d_Mo_encode_32 : decode jM_Mo_encode.2.1 32 = .ok (.goto 10, 3) := by decide +kernel
theorem d_Mo_encode_35 : decode jM_Mo_encode.2.1 35 = .ok (.aload_n 0, 1) := by decide +kernel
theorem d_Mo_encode_36 : decode jM_Mo_encode.2.1 36 = .ok (.getfield 7, 3) := by decide +kernel
theorem d_Mo_encode_39 : decode jM_Mo_encode.2.1 39 = .ok (.iload 4, 2) := by decide +kernel
theorem d_Mo_encode_41 : decode jM_Mo_encode.2.1 41 = .ok (.iaload, 1) := by decide +kernel
theorem d_Mo_encode_42 : decode jM_Mo_encode.2.1 42 = .ok (.istore 5, 2) := by decide +kernel
theorem d_Mo_encode_44 : decode jM_Mo_encode.2.1 44 = .ok (.iload 5, 2) := by decide +kernel
theorem d_Mo_encode_46 : decode jM_Mo_encode.2.1 46 = .ok (.ifCond .ge 11, 3) := by decide +kernel
theorem d_Mo_encode_49 : decode jM_Mo_encode.2.1 49 = .ok (.aload_n 0, 1) := by decide +kernel
theorem d_Mo_encode_50 : decode jM_Mo_encode.2.1 50 = .ok (.iconst 0, 1) := by decide +kernel
theorem d_Mo_encode_51 : decode jM_Mo_encode.2.1 51 = .ok (.invokevirtual 137, 3) := by decide +kernel
theorem d_Mo_encode_54 : decode jM_Mo_encode.2.1 54 = .ok (.goto 202, 3) := by decide +kernel
theorem d_Mo_encode_57 : decode jM_Mo_encode.2.1 57 = .ok (.iload 5, 2) := by decide +kernel
theorem d_Mo_encode_59 : decode jM_Mo_encode.2.1 59 = .ok (.bipush 7, 2) := by decide +kernel
theorem d_Mo_encode_61 : decode jM_Mo_encode.2.1 61 = .ok (.if_icmp .ne 14, 3) := by decide +kernel
theorem d_Mo_encode_64 : decode jM_Mo_encode.2.1 64 = .ok (.aload_n 0, 1) := by decide +kernel
theorem d_Mo_encode_65 : decode jM_Mo_encode.2.1 65 = .ok (.iload 4, 2) := by decide +kernel
theorem d_Mo_encode_67 : decode jM_Mo_encode.2.1 67 = .ok (.iload_n 2, 1) := by decide +kernel
theorem d_Mo_encode_68 : decode jM_Mo_encode.2.1 68 = .ok (.invokevirtual 123, 3) := by decide +kernel
theorem d_Mo_encode_71 : decode jM_Mo_encode.2.1 71 = .ok (.istore_n 2, 1) := by decide +kernel
theorem d_Mo_encode_72 : decode jM_Mo_encode.2.1 72 = .ok (.goto 184, 3) := by decide +kernel
theorem d_Mo_encode_75 : decode jM_Mo_encode.2.1 75 = .ok (.iload 5, 2) := by decide +kernel
theorem d_Mo_encode_77 : decode jM_Mo_encode.2.1 77 = .ok (.ifCond .eq 179, 3) := by decide +kernel
theorem d_Mo_encode_80 : decode jM_Mo_encode.2.1 80 = .ok (.aload_n 0, 1) := by decide +kernel
theorem d_Mo_encode_81 : decode jM_Mo_encode.2.1 81 = .ok (.getfield 66, 3) := by decide +kernel
theorem d_Mo_encode_84 : decode jM_Mo_encode.2.1 84 = .ok (.iload_n 3, 1) := by decide +kernel
theorem d_Mo_encode_85 : decode jM_Mo_encode.2.1 85 = .ok (.laload, 1) := by decide +kernel
theorem d_Mo_encode_86 : decode jM_Mo_encode.2.1 86 = .ok (.lstore 6, 2) := by decide +kernel
theorem d_Mo_encode_88 : decode jM_Mo_encode.2.1 88 = .ok (.iinc 3 1, 3) := by decide +kernel
theorem d_Mo_encode_91 : decode jM_Mo_encode.2.1 91 = .ok (.iload 5, 2) := by decide +kernel
theorem d_Mo_encode_93 : decode jM_Mo_encode.2.1 93 = .ok (.iconst 1, 1) := by decide +kernel
theorem d_Mo_encode_94 : decode jM_Mo_encode.2.1 94 = .ok (.if_icmp .ne 13, 3) := by decide +kernel
theorem d_Mo_encode_97 : decode jM_Mo_encode.2.1 97 = .ok (.aload_n 0, 1) := by decide +kernel
theorem d_Mo_encode_98 : decode jM_Mo_encode.2.1 98 = .ok (.lload 6, 2) := by decide +kernel
theorem d_Mo_encode_100 : decode jM_Mo_encode.2.1 100 = .ok (.l2i, 1) := by decide +kernel
theorem d_Mo_encode_101 : decode jM_Mo_encode.2.1 101 = .ok (.invokevirtual 137, 3) := by decide +kernel
theorem d_Mo_encode_104 : decode jM_Mo_encode.2.1 104 = .ok (.goto 152, 3) := by decide +kernel
theorem d_Mo_encode_107 : decode jM_Mo_encode.2.1 107 = .ok (.iload 5, 2) := by decide +kernel
theorem d_Mo_encode_109 : decode jM_Mo_encode.2.1 109 = .ok (.iconst 5, 1) := by decide +kernel
theorem d_Mo_encode_110 : decode jM_Mo_encode.2.1 110 = .ok (.if_icmp .ne 68, 3) := by decide +kernel
theorem d_Mo_encode_113 : decode jM_Mo_encode.2.1 113 = .ok (.lload 6, 2) := by decide +kernel
theorem d_Mo_encode_115 : decode jM_Mo_encode.2.1 115 = .ok (.lconst 0, 1) := by decide +kernel
theorem d_Mo_encode_116 : decode jM_Mo_encode.2.1 116 = .ok (.lcmp, 1) := by decide +kernel
theorem d_Mo_encode_117 : decode jM_Mo_encode.2.1 117 = .ok (.ifCond .le 9, 3) := by decide +kernel
theorem d_Mo_encode_120 : decode jM_Mo_encode.2.1 120 = .ok (.aload_n 0, 1) := by decide +kernel
theorem d_Mo_encode_121 : decode jM_Mo_encode.2.1 121 = .ok (.lload 6, 2) := by decide +kernel
theorem d_Mo_encode_123 : decode jM_Mo_encode.2.1 123 = .ok (.invokevirtual 141, 3) := by decide +kernel
theorem d_Mo_encode_126 : decode jM_Mo_encode.2.1 126 = .ok (.aload_n 0, 1) := by decide +kernel
theorem d_Mo_encode_127 : decode jM_Mo_encode.2.1 127 = .ok (.getfield 69, 3) := by decide +kernel
theorem d_Mo_encode_130 : decode jM_Mo_encode.2.1 130 = .ok (.iload_n 2, 1) := by decide +kernel
theorem d_Mo_encode_131 : decode jM_Mo_encode.2.1 131 = .ok (.iconst (-1), 1) := by decide +kernel
theorem d_Mo_encode_132 : decode jM_Mo_encode.2.1 132 = .ok (.iastore, 1) := by decide +kernel
theorem d_Mo_encode_133 : decode jM_Mo_encode.2.1 133 = .ok (.iinc 2 1, 3) := by decide +kernel
theorem d_Mo_encode_136 : decode jM_Mo_encode.2.1 136 = .ok (.iconst 0, 1) := by decide +kernel
theorem d_Mo_encode_137 : decode jM_Mo_encode.2.1 137 = .ok (.istore 8, 2) := by decide +kernel
theorem d_Mo_encode_139 : decode jM_Mo_encode.2.1 139 = .ok (.iload 8, 2) := by decide +kernel
theorem d_Mo_encode_141 : decode jM_Mo_encode.2.1 141 = .ok (.lload 6, 2) := by decide +kernel
theorem d_Mo_encode_143 : decode jM_Mo_encode.2.1 143 = .ok (.l2i, 1) := by decide +kernel
theorem d_Mo_encode_144 : decode jM_Mo_encode.2.1 144 = .ok (.if_icmp .ge 25, 3) := by decide +kernel
theorem d_Mo_encode_147 : decode jM_Mo_encode.2.1 147 = .ok (.aload_n 0, 1) := by decide +kernel
theorem d_Mo_encode_148 : decode jM_Mo_encode.2.1 148 = .ok (.getfield 69, 3) := by decide +kernel
theorem d_Mo_encode_151 : decode jM_Mo_encode.2.1 151 = .ok (.iload_n 2, 1) := by decide +kernel
theorem d_Mo_encode_152 : decode jM_Mo_encode.2.1 152 = .ok (.iload 8, 2) := by decide +kernel
theorem d_Mo_encode_154 : decode jM_Mo_encode.2.1 154 = .ok (.iadd, 1) := by decide +kernel
theorem d_Mo_encode_155 : decode jM_Mo_encode.2.1 155 = .ok (.aload_n 0, 1) := by decide +kernel
theorem d_Mo_encode_156 : decode jM_Mo_encode.2.1 156 = .ok (.getfield 16, 3) := by decide +kernel
theorem d_Mo_encode_159 : decode jM_Mo_encode.2.1 159 = .ok (.iload 4, 2) := by decide +kernel
theorem d_Mo_encode_161 : decode jM_Mo_encode.2.1 161 = .ok (.iaload, 1) := by decide +kernel
theorem d_Mo_encode_162 : decode jM_Mo_encode.2.1 162 = .ok (.iastore, 1) := by decide +kernel
theorem d_Mo_encode_163 : decode jM_Mo_encode.2.1 163 = .ok (.iinc 8 1, 3) := by decide +kernel
theorem d_Mo_encode_166 : decode jM_Mo_encode.2.1 166 = .ok (.goto (-27), 3) := by decide +kernel
theorem d_Mo_encode_169 : decode jM_Mo_encode.2.1 169 = .ok (.iload_n 2, 1) := by decide +kernel
theorem d_Mo_encode_170 : decode jM_Mo_encode.2.1 170 = .ok (.lload 6, 2) := by decide +kernel
theorem d_Mo_encode_172 : decode jM_Mo_encode.2.1 172 = .ok (.l2i, 1) := by decide +kernel
theorem d_Mo_encode_173 : decode jM_Mo_encode.2.1 173 = .ok (.iadd, 1) := by decide +kernel
theorem d_Mo_encode_174 : decode jM_Mo_encode.2.1 174 = .ok (.istore_n 2, 1) := by decide +kernel
theorem d_Mo_encode_175 : decode jM_Mo_encode.2.1 175 = .ok (.goto 81, 3) := by decide +kernel
theorem d_Mo_encode_178 : decode jM_Mo_encode.2.1 178 = .ok (.iload 5, 2) := by decide +kernel
theorem d_Mo_encode_180 : decode jM_Mo_encode.2.1 180 = .ok (.bipush 6, 2) := by decide +kernel
theorem d_Mo_encode_182 : decode jM_Mo_encode.2.1 182 = .ok (.if_icmp .ne 45, 3) := by decide +kernel
theorem d_Mo_encode_185 : decode jM_Mo_encode.2.1 185 = .ok (.aload_n 0, 1) := by decide +kernel
theorem d_Mo_encode_186 : decode jM_Mo_encode.2.1 186 = .ok (.lload 6, 2) := by decide +kernel
theorem d_Mo_encode_188 : decode jM_Mo_encode.2.1 188 = .ok (.invokevirtual 141, 3) := by decide +kernel
theorem d_Mo_encode_191 : decode jM_Mo_encode.2.1 191 = .ok (.aload_n 0, 1) := by decide +kernel
theorem d_Mo_encode_192 : decode jM_Mo_encode.2.1 192 = .ok (.getfield 69, 3) := by decide +kernel
theorem d_Mo_encode_195 : decode jM_Mo_encode.2.1 195 = .ok (.iload_n 2, 1) := by decide +kernel
theorem d_Mo_encode_196 : decode jM_Mo_encode.2.1 196 = .ok (.lload 6, 2) := by decide +kernel
theorem d_Mo_encode_198 : decode jM_Mo_encode.2.1 198 = .ok (.lconst 0, 1) := by decide +kernel
theorem d_Mo_encode_199 : decode jM_Mo_encode.2.1 199 = .ok (.lcmp, 1) := by decide +kernel
theorem d_Mo_encode_200 : decode jM_Mo_encode.2.1 200 = .ok (.ifCond .ne 13, 3) := by decide +kernel
theorem d_Mo_encode_203 : decode jM_Mo_encode.2.1 203 = .ok (.aload_n 0, 1) := by decide +kernel
theorem d_Mo_encode_204 : decode jM_Mo_encode.2.1 204 = .ok (.getfield 16, 3) := by decide +kernel
theorem d_Mo_encode_207 : decode jM_Mo_encode.2.1 207 = .ok (.iload 4, 2) := by decide +kernel
theorem d_Mo_encode_209 : decode jM_Mo_encode.2.1 209 = .ok (.iaload, 1) := by decide +kernel
theorem d_Mo_encode_210 : decode jM_Mo_encode.2.1 210 = .ok (.goto 10, 3) := by decide +kernel
theorem d_Mo_encode_213 : decode jM_Mo_encode.2.1 213 = .ok (.aload_n 0, 1) := by decide +kernel
theorem d_Mo_encode_214 : decode jM_Mo_encode.2.1 214 = .ok (.getfield 19, 3) := by decide +kernel
theorem d_Mo_encode_217 : decode jM_Mo_encode.2.1 217 = .ok (.iload 4, 2) := by decide +kernel
theorem d_Mo_encode_219 : decode jM_Mo_encode.2.1 219 = .ok (.iaload, 1) := by decide +kernel
theorem d_Mo_encode_220 : decode jM_Mo_encode.2.1 220 = .ok (.iastore, 1) := by decide +kernel
theorem d_Mo_encode_221 : decode jM_Mo_encode.2.1 221 = .ok (.iinc 2 1, 3) := by decide +kernel
theorem d_Mo_encode_224 : decode jM_Mo_encode.2.1 224 = .ok (.goto 32, 3) := by decide +kernel
theorem d_Mo_encode_227 : decode jM_Mo_encode.2.1 227 = .ok (.aload_n 0, 1) := by decide +kernel
theorem d_Mo_encode_228 : decode jM_Mo_encode.2.1 228 = .ok (.iload 5, 2) := by decide +kernel
theorem d_Mo_encode_230 : decode jM_Mo_encode.2.1 230 = .ok (.iconst 4, 1) := by decide +kernel
theorem d_Mo_encode_231 : decode jM_Mo_encode.2.1 231 = .ok (.if_icmp .ne 20, 3) := by decide +kernel
theorem d_Mo_encode_234 : decode jM_Mo_encode.2.1 234 = .ok (.aload_n 0, 1) := by decide +kernel
theorem d_Mo_encode_235 : decode jM_Mo_encode.2.1 235 = .ok (.getfield 16, 3) := by decide +kernel
theorem d_Mo_encode_238 : decode jM_Mo_encode.2.1 238 = .ok (.iload 4, 2) := by decide +kernel
theorem d_Mo_encode_240 : decode jM_Mo_encode.2.1 240 = .ok (.iaload, 1) := by decide +kernel
theorem d_Mo_encode_241 : decode jM_Mo_encode.2.1 241 = .ok (.lload 6, 2) := by decide +kernel
theorem d_Mo_encode_243 : decode jM_Mo_encode.2.1 243 = .ok (.l2i, 1) := by decide +kernel
theorem d_Mo_encode_244 : decode jM_Mo_encode.2.1 244 = .ok (.invokestatic 145, 3) := by decide +kernel
theorem d_Mo_encode_247 : decode jM_Mo_encode.2.1 247 = .ok (.i2l, 1) := by decide +kernel
theorem d_Mo_encode_248 : decode jM_Mo_encode.2.1 248 = .ok (.goto 5, 3) := by decide +kernel
theorem d_Mo_encode_251 : decode jM_Mo_encode.2.1 251 = .ok (.lload 6, 2) := by decide +kernel
theorem d_Mo_encode_253 : decode jM_Mo_encode.2.1 253 = .ok (.invokevirtual 141, 3) := by decide +kernel
theorem d_Mo_encode_256 : decode jM_Mo_encode.2.1 256 = .ok (.goto (-245), 3) := by decide +kernel
theorem d_Mo_encode_259 : decode jM_Mo_encode.2.1 259 = .ok (.return_, 1) := by decide +kernel
theorem d_Mo_symbol_0 : decode jM_Mo_symbol.2.1 0 = .ok (.iconst 0, 1) := by decide +kernel
theorem d_Mo_symbol_1 : decode jM_Mo_symbol.2.1 1 = .ok (.istore_n 2, 1) := by decide +kernel
theorem d_Mo_symbol_2 : decode jM_Mo_symbol.2.1 2 = .ok (.iload_n 2, 1) := by decide +kernel
theorem d_Mo_symbol_3 : decode jM_Mo_symbol.2.1 3 = .ok (.bipush 7, 2) := by decide +kernel
theorem d_Mo_symbol_5 : decode jM_Mo_symbol.2.1 5 = .ok (.if_icmp .ge 26, 3) := by decide +kernel
theorem d_Mo_symbol_8 : decode jM_Mo_symbol.2.1 8 = .ok (.iload_n 0, 1) := by decide +kernel
theorem d_Mo_symbol_9 : decode jM_Mo_symbol.2.1 9 = .ok (.iload_n 2, 1) := by decide +kernel
theorem d_Mo_symbol_10 : decode jM_Mo_symbol.2.1 10 = .ok (.invokestatic 145, 3) := by decide +kernel
theorem d_Mo_symbol_13 : decode jM_Mo_symbol.2.1 13 = .ok (.iload_n 1, 1) := by decide +kernel
theorem d_Mo_symbol_14 : decode jM_Mo_symbol.2.1 14 = .ok (.if_icmp .ne 11, 3) := by decide +kernel
theorem d_Mo_symbol_17 : decode jM_Mo_symbol.2.1 17 = .ok (.iload_n 0, 1) := by decide +kernel
theorem d_Mo_symbol_18 : decode jM_Mo_symbol.2.1 18 = .ok (.iload_n 2, 1) := by decide +kernel
theorem d_Mo_symbol_19 : decode jM_Mo_symbol.2.1 19 = .ok (.ishr, 1) := by decide +kernel
theorem d_Mo_symbol_20 : decode jM_Mo_symbol.2.1 20 = .ok (.iconst 1, 1) := by decide +kernel
theorem d_Mo_symbol_21 : decode jM_Mo_symbol.2.1 21 = .ok (.iand, 1) := by decide +kernel
theorem d_Mo_symbol_22 : decode jM_Mo_symbol.2.1 22 = .ok (.ifCond .ne 9, 3) := by decide +kernel
theorem d_Mo_symbol_25 : decode jM_Mo_symbol.2.1 25 = .ok (.iinc 2 1, 3) := by decide +kernel
theorem d_Mo_symbol_28 : decode jM_Mo_symbol.2.1 28 = .ok (.goto (-26), 3) := by decide +kernel
theorem d_Mo_symbol_31 : decode jM_Mo_symbol.2.1 31 = .ok (.iload_n 2, 1) := by decide +kernel
theorem d_Mo_symbol_32 : decode jM_Mo_symbol.2.1 32 = .ok (.ireturn, 1) := by decide +kernel
theorem d_Mo_varint_0 : decode jM_Mo_varint.2.1 0 = .ok (.lconst 0, 1) := by decide +kernel
theorem d_Mo_varint_1 : decode jM_Mo_varint.2.1 1 = .ok (.lstore_n 1, 1) := by decide +kernel
theorem d_Mo_varint_2 : decode jM_Mo_varint.2.1 2 = .ok (.iconst 0, 1) := by decide +kernel
theorem d_Mo_varint_3 : decode jM_Mo_varint.2.1 3 = .ok (.istore_n 3, 1) := by decide +kernel
theorem d_Mo_varint_4 : decode jM_Mo_varint.2.1 4 = .ok (.sipush 128, 3) := by decide +kernel
theorem d_Mo_varint_7 : decode jM_Mo_varint.2.1 7 = .ok (.istore 4, 2) := by decide +kernel
theorem d_Mo_varint_9 : decode jM_Mo_varint.2.1 9 = .ok (.iload 4, 2) := by decide +kernel
theorem d_Mo_varint_11 : decode jM_Mo_varint.2.1 11 = .ok (.sipush 128, 3) := by decide +kernel
theorem d_Mo_varint_14 : decode jM_Mo_varint.2.1 14 = .ok (.if_icmp .lt 47, 3) := by decide +kernel
theorem d_Mo_varint_17 : decode jM_Mo_varint.2.1 17 = .ok (.iload_n 3, 1) := by decide +kernel
theorem d_Mo_varint_18 : decode jM_Mo_varint.2.1 18 = .ok (.bipush 70, 2) := by decide +kernel
theorem d_Mo_varint_20 : decode jM_Mo_varint.2.1 20 = .ok (.if_icmp .ge 41, 3) := by decide +kernel
theorem d_Mo_varint_23 : decode jM_Mo_varint.2.1 23 = .ok (.aload_n 0, 1) := by decide +kernel
theorem d_Mo_varint_24 : decode jM_Mo_varint.2.1 24 = .ok (.getfield 48, 3) := by decide +kernel
theorem d_Mo_varint_27 : decode jM_Mo_varint.2.1 27 = .ok (.aload_n 0, 1) := by decide +kernel
theorem d_Mo_varint_28 : decode jM_Mo_varint.2.1 28 = .ok (.getfield 148, 3) := by decide +kernel
theorem d_Mo_varint_31 : decode jM_Mo_varint.2.1 31 = .ok (.iaload, 1) := by decide +kernel
theorem d_Mo_varint_32 : decode jM_Mo_varint.2.1 32 = .ok (.istore 4, 2) := by decide +kernel
theorem d_Mo_varint_34 : decode jM_Mo_varint.2.1 34 = .ok (.aload_n 0, 1) := by decide +kernel
theorem d_Mo_varint_35 : decode jM_Mo_varint.2.1 35 = .ok (.dup, 1) := by decide +kernel
theorem d_Mo_varint_36 : decode jM_Mo_varint.2.1 36 = .ok (.getfield 148, 3) := by decide +kernel
theorem d_Mo_varint_39 : decode jM_Mo_varint.2.1 39 = .ok (.iconst 1, 1) := by decide +kernel
theorem d_Mo_varint_40 : decode jM_Mo_varint.2.1 40 = .ok (.iadd, 1) := by decide +kernel
theorem d_Mo_varint_41 : decode jM_Mo_varint.2.1 41 = .ok (.putfield 148, 3) := by decide +kernel
theorem d_Mo_varint_44 : decode jM_Mo_varint.2.1 44 = .ok (.lload_n 1, 1) := by decide +kernel
theorem d_Mo_varint_45 : decode jM_Mo_varint.2.1 45 = .ok (.iload 4, 2) := by decide +kernel
theorem d_Mo_varint_47 : decode jM_Mo_varint.2.1 47 = .ok (.bipush 127, 2) := by decide +kernel
theorem d_Mo_varint_49 : decode jM_Mo_varint.2.1 49 = .ok (.iand, 1) := by decide +kernel
theorem d_Mo_varint_50 : decode jM_Mo_varint.2.1 50 = .ok (.i2l, 1) := by decide +kernel
theorem d_Mo_varint_51 : decode jM_Mo_varint.2.1 51 = .ok (.iload_n 3, 1) := by decide +kernel
theorem d_Mo_varint_52 : decode jM_Mo_varint.2.1 52 = .ok (.lshl, 1) := by decide +kernel
theorem d_Mo_varint_53 : decode jM_Mo_varint.2.1 53 = .ok (.lor, 1) := by decide +kernel
theorem d_Mo_varint_54 : decode jM_Mo_varint.2.1 54 = .ok (.lstore_n 1, 1) := by decide +kernel
theorem d_Mo_varint_55 : decode jM_Mo_varint.2.1 55 = .ok (.iinc 3 7, 3) := by decide +kernel
theorem d_Mo_varint_58 : decode jM_Mo_varint.2.1 58 = .ok (.goto (-49), 3) := by decide +kernel
theorem d_Mo_varint_61 : decode jM_Mo_varint.2.1 61 = .ok (.lload_n 1, 1) := by decide +kernel
theorem d_Mo_varint_62 : decode jM_Mo_varint.2.1 62 = .ok (.iconst 1, 1) := by decide +kernel
theorem d_Mo_varint_63 : decode jM_Mo_varint.2.1 63 = .ok (.lushr, 1) := by decide +kernel
theorem d_Mo_varint_64 : decode jM_Mo_varint.2.1 64 = .ok (.lload_n 1, 1) := by decide +kernel
theorem d_Mo_varint_65 : decode jM_Mo_varint.2.1 65 = .ok (.lconst 1, 1) := by decide +kernel
theorem d_Mo_varint_66 : decode jM_Mo_varint.2.1 66 = .ok (.land, 1) := by decide +kernel
theorem d_Mo_varint_67 : decode jM_Mo_varint.2.1 67 = .ok (.lneg, 1) := by decide +kernel
theorem d_Mo_varint_68 : decode jM_Mo_varint.2.1 68 = .ok (.lxor, 1) := by decide +kernel
theorem d_Mo_varint_69 : decode jM_Mo_varint.2.1 69 = .ok (.lreturn, 1) := by decide +kernel
theorem d_Mo_decode_0 : decode jM_Mo_decode.2.1 0 = .ok (.iconst 1, 1) := by decide +kernel
theorem d_Mo_decode_1 : decode jM_Mo_decode.2.1 1 = .ok (.istore_n 2, 1) := by decide +kernel
theorem d_Mo_decode_2 : decode jM_Mo_decode.2.1 2 = .ok (.iconst 0, 1) := by decide +kernel
theorem d_Mo_decode_3 : decode jM_Mo_decode.2.1 3 = .ok (.istore_n 3, 1) := by decide +kernel
theorem d_Mo_decode_4 : decode jM_Mo_decode.2.1 4 = .ok (.aload_n 0, 1) := by decide +kernel
theorem d_Mo_decode_5 : decode jM_Mo_decode.2.1 5 = .ok (.getfield 69, 3) := by decide +kernel
theorem d_Mo_decode_8 : decode jM_Mo_decode.2.1 8 = .ok (.iconst 0, 1) := by decide +kernel
theorem d_Mo_decode_9 : decode jM_Mo_decode.2.1 9 = .ok (.iload_n 1, 1) := by decide +kernel
theorem d_Mo_decode_10 : decode jM_Mo_decode.2.1 10 = .ok (.iastore, 1) := by decide +kernel
theorem d_Mo_decode_11 : decode jM_Mo_decode.2.1 11 = .ok (.iload_n 2, 1) := by decide +kernel
theorem d_Mo_decode_12 : decode jM_Mo_decode.2.1 12 = .ok (.ifCond .le 257, 3) := by decide +kernel
theorem d_Mo_decode_15 : decode jM_Mo_decode.2.1 15 = .ok (.iinc 2 (-1), 3) := by decide +kernel
theorem d_Mo_decode_18 : decode jM_Mo_decode.2.1 18 = .ok (.aload_n 0, 1) := by decide +kernel
theorem d_Mo_decode_19 : decode jM_Mo_decode.2.1 19 = .ok (.getfield 69, 3) := by decide +kernel
theorem d_Mo_decode_22 : decode jM_Mo_decode.2.1 22 = .ok (.iload_n 2, 1) := by decide +kernel
theorem d_Mo_decode_23 : decode jM_Mo_decode.2.1 23 = .ok (.iaload, 1) := by decide +kernel
theorem d_Mo_decode_24 : decode jM_Mo_decode.2.1 24 = .ok (.istore 4, 2) := by decide +kernel
theorem d_Mo_decode_26 : decode jM_Mo_decode.2.1 26 = .ok (.iload 4, 2) := by decide +kernel
theorem d_Mo_decode_28 : decode jM_Mo_decode.2.1 28 = .ok (.ifCond .ge 7, 3) := by decide +kernel
theorem d_Mo_decode_31 : decode jM_Mo_decode.2.1 31 = .ok (.iconst (-1), 1) := by decide +kernel
theorem d_Mo_decode_32 : decode jM_Mo_decode.2.1 32 = .ok (.goto 10, 3) := by decide +kernel
theorem d_Mo_decode_35 : decode jM_Mo_decode.2.1 35 = .ok (.aload_n 0, 1) := by decide +kernel
theorem d_Mo_decode_36 : decode jM_Mo_decode.2.1 36 = .ok (.getfield 7, 3) := by decide +kernel
theorem d_Mo_decode_39 : decode jM_Mo_decode.2.1 39 = .ok (.iload 4, 2) := by decide +kernel
theorem d_Mo_decode_41 : decode jM_Mo_decode.2.1 41 = .ok (.iaload, 1) := by decide +kernel
theorem d_Mo_decode_42 : decode jM_Mo_decode.2.1 42 = .ok (.istore 5, 2) := by decide +kernel
theorem d_Mo_decode_44 : decode jM_Mo_decode.2.1 44 = .ok (.iload 5, 2) := by decide +kernel
theorem d_Mo_decode_46 : decode jM_Mo_decode.2.1 46 = .ok (.ifCond .ge 16, 3) := by decide +kernel
theorem d_Mo_decode_49 : decode jM_Mo_decode.2.1 49 = .ok (.aload_n 0, 1) := by decide +kernel
theorem d_Mo_decode_50 : decode jM_Mo_decode.2.1 50 = .ok (.dup, 1) := by decide +kernel
theorem d_Mo_decode_51 : decode jM_Mo_decode.2.1 51 = .ok (.getfield 148, 3) := by decide +kernel
theorem d_Mo_decode_54 : decode jM_Mo_decode.2.1 54 = .ok (.iconst 1, 1) := by decide +kernel
theorem d_Mo_decode_55 : decode jM_Mo_decode.2.1 55 = .ok (.iadd, 1) := by decide +kernel
theorem d_Mo_decode_56 : decode jM_Mo_decode.2.1 56 = .ok (.putfield 148, 3) := by decide +kernel
theorem d_Mo_decode_59 : decode jM_Mo_decode.2.1 59 = .ok (.goto 207, 3) := by decide +kernel
theorem d_Mo_decode_62 : decode jM_Mo_decode.2.1 62 = .ok (.iload 5, 2) := by decide +kernel
theorem d_Mo_decode_64 : decode jM_Mo_decode.2.1 64 = .ok (.bipush 7, 2) := by decide +kernel
theorem d_Mo_decode_66 : decode jM_Mo_decode.2.1 66 = .ok (.if_icmp .ne 14, 3) := by decide +kernel
theorem d_Mo_decode_69 : decode jM_Mo_decode.2.1 69 = .ok (.aload_n 0, 1) := by decide +kernel
theorem d_Mo_decode_70 : decode jM_Mo_decode.2.1 70 = .ok (.iload 4, 2) := by decide +kernel
theorem d_Mo_decode_72 : decode jM_Mo_decode.2.1 72 = .ok (.iload_n 2, 1) := by decide +kernel
theorem d_Mo_decode_73 : decode jM_Mo_decode.2.1 73 = .ok (.invokevirtual 123, 3) := by decide +kernel
theorem d_Mo_decode_76 : decode jM_Mo_decode.2.1 76 = .ok (.istore_n 2, 1) := by decide +kernel
theorem d_Mo_decode_77 : decode jM_Mo_decode.2.1 77 = .ok (.goto 189, 3) := by decide +kernel
theorem d_Mo_decode_80 : decode jM_Mo_decode.2.1 80 = .ok (.iload 5, 2) := by decide +kernel
theorem d_Mo_decode_82 : decode jM_Mo_decode.2.1 82 = .ok (.ifCond .eq 184, 3) := by decide +kernel
theorem d_Mo_decode_85 : decode jM_Mo_decode.2.1 85 = .ok (.iload 5, 2) := by decide +kernel
theorem d_Mo_decode_87 : decode jM_Mo_decode.2.1 87 = .ok (.iconst 1, 1) := by decide +kernel
theorem d_Mo_decode_88 : decode jM_Mo_decode.2.1 88 = .ok (.if_icmp .ne 16, 3) := by decide +kernel
theorem d_Mo_decode_91 : decode jM_Mo_decode.2.1 91 = .ok (.aload_n 0, 1) := by decide +kernel
theorem d_Mo_decode_92 : decode jM_Mo_decode.2.1 92 = .ok (.getfield 48, 3) := by decide +kernel
theorem d_Mo_decode_95 : decode jM_Mo_decode.2.1 95 = .ok (.aload_n 0, 1) := by decide +kernel
theorem d_Mo_decode_96 : decode jM_Mo_decode.2.1 96 = .ok (.getfield 148, 3) := by decide +kernel
theorem d_Mo_decode_99 : decode jM_Mo_decode.2.1 99 = .ok (.iaload, 1) := by decide +kernel
theorem d_Mo_decode_100 : decode jM_Mo_decode.2.1 100 = .ok (.i2l, 1) := by decide +kernel
theorem d_Mo_decode_101 : decode jM_Mo_decode.2.1 101 = .ok (.goto 7, 3) := by decide +kernel
theorem d_Mo_decode_104 : decode jM_Mo_decode.2.1 104 = .ok (.aload_n 0, 1) := by decide +kernel
theorem d_Mo_decode_105 : decode jM_Mo_decode.2.1 105 = .ok (.invokevirtual 151, 3) := by decide +kernel
theorem d_Mo_decode_108 : decode jM_Mo_decode.2.1 108 = .ok (.lstore 6, 2) := by decide +kernel
theorem d_Mo_decode_110 : decode jM_Mo_decode.2.1 110 = .ok (.aload_n 0, 1) := by decide +kernel
theorem d_Mo_decode_111 : decode jM_Mo_decode.2.1 111 = .ok (.dup, 1) := by decide +kernel
theorem d_Mo_decode_112 : decode jM_Mo_decode.2.1 112 = .ok (.getfield 148, 3) := by decide +kernel
theorem d_Mo_decode_115 : decode jM_Mo_decode.2.1 115 = .ok (.iload 5, 2) := by decide +kernel
theorem d_Mo_decode_117 : decode jM_Mo_decode.2.1 117 = .ok (.iconst 1, 1) := by decide +kernel
theorem d_Mo_decode_118 : decode jM_Mo_decode.2.1 118 = .ok (.if_icmp .ne 7, 3) := by decide +kernel
theorem d_Mo_decode_121 : decode jM_Mo_decode.2.1 121 = .ok (.iconst 1, 1) := by decide +kernel
theorem d_Mo_decode_122 : decode jM_Mo_decode.2.1 122 = .ok (.goto 4, 3) := by decide +kernel
theorem d_Mo_decode_125 : decode jM_Mo_decode.2.1 125 = .ok (.iconst 0, 1) := by decide +kernel
theorem d_Mo_decode_126 : decode jM_Mo_decode.2.1 126 = .ok (.iadd, 1) := by decide +kernel
theorem d_Mo_decode_127 : decode jM_Mo_decode.2.1 127 = .ok (.putfield 148, 3) := by decide +kernel
theorem d_Mo_decode_130 : decode jM_Mo_decode.2.1 130 = .ok (.aload_n 0, 1) := by decide +kernel
theorem d_Mo_decode_131 : decode jM_Mo_decode.2.1 131 = .ok (.getfield 66, 3) := by decide +kernel
theorem d_Mo_decode_134 : decode jM_Mo_decode.2.1 134 = .ok (.iload_n 3, 1) := by decide +kernel
theorem d_Mo_decode_135 : decode jM_Mo_decode.2.1 135 = .ok (.iload 5, 2) := by decide +kernel
theorem d_Mo_decode_137 : decode jM_Mo_decode.2.1 137 = .ok (.iconst 4, 1) := by decide +kernel
theorem d_Mo_decode_138 : decode jM_Mo_decode.2.1 138 = .ok (.if_icmp .ne 20, 3) := by decide +kernel
theorem d_Mo_decode_141 : decode jM_Mo_decode.2.1 141 = .ok (.aload_n 0, 1) := by decide +kernel
theorem d_Mo_decode_142 : decode jM_Mo_decode.2.1 142 = .ok (.getfield 16, 3) := by decide +kernel
theorem d_Mo_decode_145 : decode jM_Mo_decode.2.1 145 = .ok (.iload 4, 2) := by decide +kernel
theorem d_Mo_decode_147 : decode jM_Mo_decode.2.1 147 = .ok (.iaload, 1) := by decide +kernel
theorem d_Mo_decode_148 : decode jM_Mo_decode.2.1 148 = .ok (.lload 6, 2) := by decide +kernel
theorem d_Mo_decode_150 : decode jM_Mo_decode.2.1 150 = .ok (.l2i, 1) := by decide +kernel
theorem d_Mo_decode_151 : decode jM_Mo_decode.2.1 151 = .ok (.invokestatic 155, 3) := by decide +kernel
theorem d_Mo_decode_154 : decode jM_Mo_decode.2.1 154 = .ok (.i2l, 1) := by decide +kernel
theorem d_Mo_decode_155 : decode jM_Mo_decode.2.1 155 = .ok (.goto 5, 3) := by decide +kernel
theorem d_Mo_decode_158 : decode jM_Mo_decode.2.1 158 = .ok (.lload 6, 2) := by decide +kernel
theorem d_Mo_decode_160 : decode jM_Mo_decode.2.1 160 = .ok (.lastore, 1) := by decide +kernel
theorem d_Mo_decode_161 : decode jM_Mo_decode.2.1 161 = .ok (.iinc 3 1, 3) := by decide +kernel
theorem d_Mo_decode_164 : decode jM_Mo_decode.2.1 164 = .ok (.iload 5, 2) := by decide +kernel
theorem d_Mo_decode_166 : decode jM_Mo_decode.2.1 166 = .ok (.bipush 6, 2) := by decide +kernel
theorem d_Mo_decode_168 : decode jM_Mo_decode.2.1 168 = .ok (.if_icmp .ne 36, 3) := by decide +kernel
theorem d_Mo_decode_171 : decode jM_Mo_decode.2.1 171 = .ok (.aload_n 0, 1) := by decide +kernel
theorem d_Mo_decode_172 : decode jM_Mo_decode.2.1 172 = .ok (.getfield 69, 3) := by decide +kernel
theorem d_Mo_decode_175 : decode jM_Mo_decode.2.1 175 = .ok (.iload_n 2, 1) := by decide +kernel
theorem d_Mo_decode_176 : decode jM_Mo_decode.2.1 176 = .ok (.lload 6, 2) := by decide +kernel
theorem d_Mo_decode_178 : decode jM_Mo_decode.2.1 178 = .ok (.lconst 0, 1) := by decide +kernel
theorem d_Mo_decode_179 : decode jM_Mo_decode.2.1 179 = .ok (.lcmp, 1) := by decide +kernel
theorem d_Mo_decode_180 : decode jM_Mo_decode.2.1 180 = .ok (.ifCond .ne 13, 3) := by decide +kernel
theorem d_Mo_decode_183 : decode jM_Mo_decode.2.1 183 = .ok (.aload_n 0, 1) := by decide +kernel
theorem d_Mo_decode_184 : decode jM_Mo_decode.2.1 184 = .ok (.getfield 16, 3) := by decide +kernel
theorem d_Mo_decode_187 : decode jM_Mo_decode.2.1 187 = .ok (.iload 4, 2) := by decide +kernel
theorem d_Mo_decode_189 : decode jM_Mo_decode.2.1 189 = .ok (.iaload, 1) := by decide +kernel
theorem d_Mo_decode_190 : decode jM_Mo_decode.2.1 190 = .ok (.goto 10, 3) := by decide +kernel
theorem d_Mo_decode_193 : decode jM_Mo_decode.2.1 193 = .ok (.aload_n 0, 1) := by decide +kernel
theorem d_Mo_decode_194 : decode jM_Mo_decode.2.1 194 = .ok (.getfield 19, 3) := by decide +kernel
theorem d_Mo_decode_197 : decode jM_Mo_decode.2.1 197 = .ok (.iload 4, 2) := by decide +kernel
theorem d_Mo_decode_199 : decode jM_Mo_decode.2.1 199 = .ok (.iaload, 1) := by decide +kernel
theorem d_Mo_decode_200 : decode jM_Mo_decode.2.1 200 = .ok (.iastore, 1) := by decide +kernel
theorem d_Mo_decode_201 : decode jM_Mo_decode.2.1 201 = .ok (.iinc 2 1, 3) := by decide +kernel
theorem d_Mo_decode_204 : decode jM_Mo_decode.2.1 204 = .ok (.iload 5, 2) := by decide +kernel
theorem d_Mo_decode_206 : decode jM_Mo_decode.2.1 206 = .ok (.iconst 5, 1) := by decide +kernel
theorem d_Mo_decode_207 : decode jM_Mo_decode.2.1 207 = .ok (.if_icmp .ne 59, 3) := by decide +kernel
theorem d_Mo_decode_210 : decode jM_Mo_decode.2.1 210 = .ok (.lload 6, 2) := by decide +kernel
theorem d_Mo_decode_212 : decode jM_Mo_decode.2.1 212 = .ok (.lconst 0, 1) := by decide +kernel
theorem d_Mo_decode_213 : decode jM_Mo_decode.2.1 213 = .ok (.lcmp, 1) := by decide +kernel
theorem d_Mo_decode_214 : decode jM_Mo_decode.2.1 214 = .ok (.ifCond .le 52, 3) := by decide +kernel
theorem d_Mo_decode_217 : decode jM_Mo_decode.2.1 217 = .ok (.aload_n 0, 1) := by decide +kernel
theorem d_Mo_decode_218 : decode jM_Mo_decode.2.1 218 = .ok (.getfield 69, 3) := by decide +kernel
theorem d_Mo_decode_221 : decode jM_Mo_decode.2.1 221 = .ok (.iload_n 2, 1) := by decide +kernel
theorem d_Mo_decode_222 : decode jM_Mo_decode.2.1 222 = .ok (.iconst (-1), 1) := by decide +kernel
theorem d_Mo_decode_223 : decode jM_Mo_decode.2.1 223 = .ok (.iastore, 1) := by decide +kernel
theorem d_Mo_decode_224 : decode jM_Mo_decode.2.1 224 = .ok (.iinc 2 1, 3) := by decide +kernel
theorem d_Mo_decode_227 : decode jM_Mo_decode.2.1 227 = .ok (.iconst 0, 1) := by decide +kernel
theorem d_Mo_decode_228 : decode jM_Mo_decode.2.1 228 = .ok (.istore 8, 2) := by decide +kernel
theorem d_Mo_decode_230 : decode jM_Mo_decode.2.1 230 = .ok (.iload 8, 2) := by decide +kernel
theorem d_Mo_decode_232 : decode jM_Mo_decode.2.1 232 = .ok (.lload 6, 2) := by decide +kernel
theorem d_Mo_decode_234 : decode jM_Mo_decode.2.1 234 = .ok (.l2i, 1) := by decide +kernel
theorem d_Mo_decode_235 : decode jM_Mo_decode.2.1 235 = .ok (.if_icmp .ge 25, 3) := by decide +kernel
theorem d_Mo_decode_238 : decode jM_Mo_decode.2.1 238 = .ok (.aload_n 0, 1) := by decide +kernel
theorem d_Mo_decode_239 : decode jM_Mo_decode.2.1 239 = .ok (.getfield 69, 3) := by decide +kernel
theorem d_Mo_decode_242 : decode jM_Mo_decode.2.1 242 = .ok (.iload_n 2, 1) := by decide +kernel
theorem d_Mo_decode_243 : decode jM_Mo_decode.2.1 243 = .ok (.iload 8, 2) := by decide +kernel
theorem d_Mo_decode_245 : decode jM_Mo_decode.2.1 245 = .ok (.iadd, 1) := by decide +kernel
theorem d_Mo_decode_246 : decode jM_Mo_decode.2.1 246 = .ok (.aload_n 0, 1) := by decide +kernel
theorem d_Mo_decode_247 : decode jM_Mo_decode.2.1 247 = .ok (.getfield 16, 3) := by decide +kernel
theorem d_Mo_decode_250 : decode jM_Mo_decode.2.1 250 = .ok (.iload 4, 2) := by decide +kernel
theorem d_Mo_decode_252 : decode jM_Mo_decode.2.1 252 = .ok (.iaload, 1) := by decide +kernel
theorem d_Mo_decode_253 : decode jM_Mo_decode.2.1 253 = .ok (.iastore, 1) := by decide +kernel
theorem d_Mo_decode_254 : decode jM_Mo_decode.2.1 254 = .ok (.iinc 8 1, 3) := by decide +kernel
theorem d_Mo_decode_257 : decode jM_Mo_decode.2.1 257 = .ok (.goto (-27), 3) := by decide +kernel
theorem d_Mo_decode_260 : decode jM_Mo_decode.2.1 260 = .ok (.iload_n 2, 1) := by decide +kernel
theorem d_Mo_decode_261 : decode jM_Mo_decode.2.1 261 = .ok (.lload 6, 2) := by decide +kernel
theorem d_Mo_decode_263 : decode jM_Mo_decode.2.1 263 = .ok (.l2i, 1) := by decide +kernel
theorem d_Mo_decode_264 : decode jM_Mo_decode.2.1 264 = .ok (.iadd, 1) := by decide +kernel
theorem d_Mo_decode_265 : decode jM_Mo_decode.2.1 265 = .ok (.istore_n 2, 1) := by decide +kernel
theorem d_Mo_decode_266 : decode jM_Mo_decode.2.1 266 = .ok (.goto (-255), 3) := by decide +kernel
theorem d_Mo_decode_269 : decode jM_Mo_decode.2.1 269 = .ok (.iload_n 3, 1) := by decide +kernel
theorem d_Mo_decode_270 : decode jM_Mo_decode.2.1 270 = .ok (.ireturn, 1) := by decide +kernel
theorem d_Mo_write_0 : decode jM_Mo_write.2.1 0 = .ok (.aload_n 0, 1) := by decide +kernel
theorem d_Mo_write_1 : decode jM_Mo_write.2.1 1 = .ok (.getfield 158, 3) := by decide +kernel
theorem d_Mo_write_4 : decode jM_Mo_write.2.1 4 = .ok (.ifCond .eq 42, 3) := by decide +kernel
theorem d_Mo_write_7 : decode jM_Mo_write.2.1 7 = .ok (.aload_n 0, 1) := by decide +kernel
theorem d_Mo_write_8 : decode jM_Mo_write.2.1 8 = .ok (.getfield 162, 3) := by decide +kernel
theorem d_Mo_write_11 : decode jM_Mo_write.2.1 11 = .ok (.ifCond .ne 35, 3) := by decide +kernel
theorem d_Mo_write_14 : decode jM_Mo_write.2.1 14 = .ok (.aload_n 0, 1) := by decide +kernel
theorem d_Mo_write_15 : decode jM_Mo_write.2.1 15 = .ok (.iconst 1, 1) := by decide +kernel
theorem d_Mo_write_16 : decode jM_Mo_write.2.1 16 = .ok (.putfield 165, 3) := by decide +kernel
theorem d_Mo_write_19 : decode jM_Mo_write.2.1 19 = .ok (.aload_n 0, 1) := by decide +kernel
theorem d_Mo_write_20 : decode jM_Mo_write.2.1 20 = .ok (.iconst 0, 1) := by decide +kernel
theorem d_Mo_write_21 : decode jM_Mo_write.2.1 21 = .ok (.putfield 168, 3) := by decide +kernel
theorem d_Mo_write_24 : decode jM_Mo_write.2.1 24 = .ok (.aload_n 0, 1) := by decide +kernel
theorem d_Mo_write_25 : decode jM_Mo_write.2.1 25 = .ok (.iconst 0, 1) := by decide +kernel
theorem d_Mo_write_26 : decode jM_Mo_write.2.1 26 = .ok (.putfield 171, 3) := by decide +kernel
theorem d_Mo_write_29 : decode jM_Mo_write.2.1 29 = .ok (.aload_n 0, 1) := by decide +kernel
theorem d_Mo_write_30 : decode jM_Mo_write.2.1 30 = .ok (.iconst 0, 1) := by decide +kernel
theorem d_Mo_write_31 : decode jM_Mo_write.2.1 31 = .ok (.putfield 174, 3) := by decide +kernel
theorem d_Mo_write_34 : decode jM_Mo_write.2.1 34 = .ok (.aload_n 0, 1) := by decide +kernel
theorem d_Mo_write_35 : decode jM_Mo_write.2.1 35 = .ok (.iconst 0, 1) := by decide +kernel
theorem d_Mo_write_36 : decode jM_Mo_write.2.1 36 = .ok (.putfield 158, 3) := by decide +kernel
theorem d_Mo_write_39 : decode jM_Mo_write.2.1 39 = .ok (.aload_n 0, 1) := by decide +kernel
theorem d_Mo_write_40 : decode jM_Mo_write.2.1 40 = .ok (.iconst 0, 1) := by decide +kernel
theorem d_Mo_write_41 : decode jM_Mo_write.2.1 41 = .ok (.putfield 177, 3) := by decide +kernel
theorem d_Mo_write_44 : decode jM_Mo_write.2.1 44 = .ok (.iconst 0, 1) := by decide +kernel
theorem d_Mo_write_45 : decode jM_Mo_write.2.1 45 = .ok (.ireturn, 1) := by decide +kernel
theorem d_Mo_write_46 : decode jM_Mo_write.2.1 46 = .ok (.aload_n 0, 1) := by decide +kernel
theorem d_Mo_write_47 : decode jM_Mo_write.2.1 47 = .ok (.dup, 1) := by decide +kernel
theorem d_Mo_write_48 : decode jM_Mo_write.2.1 48 = .ok (.getfield 162, 3) := by decide +kernel
theorem d_Mo_write_51 : decode jM_Mo_write.2.1 51 = .ok (.aload_n 0, 1) := by decide +kernel
theorem d_Mo_write_52 : decode jM_Mo_write.2.1 52 = .ok (.getfield 158, 3) := by decide +kernel
theorem d_Mo_write_55 : decode jM_Mo_write.2.1 55 = .ok (.ifCond .eq 7, 3) := by decide +kernel
theorem d_Mo_write_58 : decode jM_Mo_write.2.1 58 = .ok (.iconst 1, 1) := by decide +kernel
theorem d_Mo_write_59 : decode jM_Mo_write.2.1 59 = .ok (.goto 4, 3) := by decide +kernel
theorem d_Mo_write_62 : decode jM_Mo_write.2.1 62 = .ok (.iconst 0, 1) := by decide +kernel
theorem d_Mo_write_63 : decode jM_Mo_write.2.1 63 = .ok (.isub, 1) := by decide +kernel
theorem d_Mo_write_64 : decode jM_Mo_write.2.1 64 = .ok (.putfield 162, 3) := by decide +kernel
theorem d_Mo_write_67 : decode jM_Mo_write.2.1 67 = .ok (.aload_n 0, 1) := by decide +kernel
theorem d_Mo_write_68 : decode jM_Mo_write.2.1 68 = .ok (.dup, 1) := by decide +kernel
theorem d_Mo_write_69 : decode jM_Mo_write.2.1 69 = .ok (.getfield 180, 3) := by decide +kernel
theorem d_Mo_write_72 : decode jM_Mo_write.2.1 72 = .ok (.iconst 1, 1) := by decide +kernel
theorem d_Mo_write_73 : decode jM_Mo_write.2.1 73 = .ok (.iadd, 1) := by decide +kernel
theorem d_Mo_write_74 : decode jM_Mo_write.2.1 74 = .ok (.putfield 180, 3) := by decide +kernel
theorem d_Mo_write_77 : decode jM_Mo_write.2.1 77 = .ok (.iconst 0, 1) := by decide +kernel
theorem d_Mo_write_78 : decode jM_Mo_write.2.1 78 = .ok (.istore_n 2, 1) := by decide +kernel
theorem d_Mo_write_79 : decode jM_Mo_write.2.1 79 = .ok (.iload_n 2, 1) := by decide +kernel
theorem d_Mo_write_80 : decode jM_Mo_write.2.1 80 = .ok (.bipush 32, 2) := by decide +kernel
theorem d_Mo_write_82 : decode jM_Mo_write.2.1 82 = .ok (.if_icmp .ge 26, 3) := by decide +kernel
theorem d_Mo_write_85 : decode jM_Mo_write.2.1 85 = .ok (.aload_n 0, 1) := by decide +kernel
theorem d_Mo_write_86 : decode jM_Mo_write.2.1 86 = .ok (.getfield 48, 3) := by decide +kernel
theorem d_Mo_write_89 : decode jM_Mo_write.2.1 89 = .ok (.bipush 32, 2) := by decide +kernel
theorem d_Mo_write_91 : decode jM_Mo_write.2.1 91 = .ok (.iload_n 1, 1) := by decide +kernel
theorem d_Mo_write_92 : decode jM_Mo_write.2.1 92 = .ok (.imul, 1) := by decide +kernel
theorem d_Mo_write_93 : decode jM_Mo_write.2.1 93 = .ok (.iload_n 2, 1) := by decide +kernel
theorem d_Mo_write_94 : decode jM_Mo_write.2.1 94 = .ok (.iadd, 1) := by decide +kernel
theorem d_Mo_write_95 : decode jM_Mo_write.2.1 95 = .ok (.aload_n 0, 1) := by decide +kernel
theorem d_Mo_write_96 : decode jM_Mo_write.2.1 96 = .ok (.getfield 63, 3) := by decide +kernel
theorem d_Mo_write_99 : decode jM_Mo_write.2.1 99 = .ok (.iload_n 2, 1) := by decide +kernel
theorem d_Mo_write_100 : decode jM_Mo_write.2.1 100 = .ok (.iaload, 1) := by decide +kernel
theorem d_Mo_write_101 : decode jM_Mo_write.2.1 101 = .ok (.iastore, 1) := by decide +kernel
theorem d_Mo_write_102 : decode jM_Mo_write.2.1 102 = .ok (.iinc 2 1, 3) := by decide +kernel
theorem d_Mo_write_105 : decode jM_Mo_write.2.1 105 = .ok (.goto (-26), 3) := by decide +kernel
theorem d_Mo_write_108 : decode jM_Mo_write.2.1 108 = .ok (.iconst 1, 1) := by decide +kernel
theorem d_Mo_write_109 : decode jM_Mo_write.2.1 109 = .ok (.ireturn, 1) := by decide +kernel
theorem d_Mo_writeFile_0 : decode jM_Mo_writeFile.2.1 0 = .ok (.iconst 0, 1) := by decide +kernel
theorem d_Mo_writeFile_1 : decode jM_Mo_writeFile.2.1 1 = .ok (.istore_n 2, 1) := by decide +kernel
theorem d_Mo_writeFile_2 : decode jM_Mo_writeFile.2.1 2 = .ok (.bipush 32, 2) := by decide +kernel
theorem d_Mo_writeFile_4 : decode jM_Mo_writeFile.2.1 4 = .ok (.iload_n 2, 1) := by decide +kernel
theorem d_Mo_writeFile_5 : decode jM_Mo_writeFile.2.1 5 = .ok (.imul, 1) := by decide +kernel
theorem d_Mo_writeFile_6 : decode jM_Mo_writeFile.2.1 6 = .ok (.aload_n 0, 1) := by decide +kernel
theorem d_Mo_writeFile_7 : decode jM_Mo_writeFile.2.1 7 = .ok (.getfield 128, 3) := by decide +kernel
theorem d_Mo_writeFile_10 : decode jM_Mo_writeFile.2.1 10 = .ok (.if_icmp .ge 69, 3) := by decide +kernel
theorem d_Mo_writeFile_13 : decode jM_Mo_writeFile.2.1 13 = .ok (.iconst 0, 1) := by decide +kernel
theorem d_Mo_writeFile_14 : decode jM_Mo_writeFile.2.1 14 = .ok (.istore_n 3, 1) := by decide +kernel
theorem d_Mo_writeFile_15 : decode jM_Mo_writeFile.2.1 15 = .ok (.iload_n 3, 1) := by decide +kernel
theorem d_Mo_writeFile_16 : decode jM_Mo_writeFile.2.1 16 = .ok (.bipush 32, 2) := by decide +kernel
theorem d_Mo_writeFile_18 : decode jM_Mo_writeFile.2.1 18 = .ok (.if_icmp .ge 43, 3) := by decide +kernel
theorem d_Mo_writeFile_21 : decode jM_Mo_writeFile.2.1 21 = .ok (.aload_n 0, 1) := by decide +kernel
theorem d_Mo_writeFile_22 : decode jM_Mo_writeFile.2.1 22 = .ok (.getfield 63, 3) := by decide +kernel
theorem d_Mo_writeFile_25 : decode jM_Mo_writeFile.2.1 25 = .ok (.iload_n 3, 1) := by decide +kernel
theorem d_Mo_writeFile_26 : decode jM_Mo_writeFile.2.1 26 = .ok (.bipush 32, 2) := by decide +kernel
theorem d_Mo_writeFile_28 : decode jM_Mo_writeFile.2.1 28 = .ok (.iload_n 2, 1) := by decide +kernel
theorem d_Mo_writeFile_29 : decode jM_Mo_writeFile.2.1 29 = .ok (.imul, 1) := by decide +kernel
theorem d_Mo_writeFile_30 : decode jM_Mo_writeFile.2.1 30 = .ok (.iload_n 3, 1) := by decide +kernel
theorem d_Mo_writeFile_31 : decode jM_Mo_writeFile.2.1 31 = .ok (.iadd, 1) := by decide +kernel
theorem d_Mo_writeFile_32 : decode jM_Mo_writeFile.2.1 32 = .ok (.aload_n 0, 1) := by decide +kernel
theorem d_Mo_writeFile_33 : decode jM_Mo_writeFile.2.1 33 = .ok (.getfield 128, 3) := by decide +kernel
theorem d_Mo_writeFile_36 : decode jM_Mo_writeFile.2.1 36 = .ok (.if_icmp .ge 17, 3) := by decide +kernel
theorem d_Mo_writeFile_39 : decode jM_Mo_writeFile.2.1 39 = .ok (.aload_n 0, 1) := by decide +kernel
theorem d_Mo_writeFile_40 : decode jM_Mo_writeFile.2.1 40 = .ok (.getfield 60, 3) := by decide +kernel
theorem d_Mo_writeFile_43 : decode jM_Mo_writeFile.2.1 43 = .ok (.bipush 32, 2) := by decide +kernel
theorem d_Mo_writeFile_45 : decode jM_Mo_writeFile.2.1 45 = .ok (.iload_n 2, 1) := by decide +kernel
theorem d_Mo_writeFile_46 : decode jM_Mo_writeFile.2.1 46 = .ok (.imul, 1) := by decide +kernel
theorem d_Mo_writeFile_47 : decode jM_Mo_writeFile.2.1 47 = .ok (.iload_n 3, 1) := by decide +kernel
theorem d_Mo_writeFile_48 : decode jM_Mo_writeFile.2.1 48 = .ok (.iadd, 1) := by decide +kernel
theorem d_Mo_writeFile_49 : decode jM_Mo_writeFile.2.1 49 = .ok (.iaload, 1) := by decide +kernel
theorem d_Mo_writeFile_50 : decode jM_Mo_writeFile.2.1 50 = .ok (.goto 4, 3) := by decide +kernel
theorem d_Mo_writeFile_53 : decode jM_Mo_writeFile.2.1 53 = .ok (.iconst 0, 1) := by decide +kernel
theorem d_Mo_writeFile_54 : decode jM_Mo_writeFile.2.1 54 = .ok (.iastore, 1) := by decide +kernel
theorem d_Mo_writeFile_55 : decode jM_Mo_writeFile.2.1 55 = .ok (.iinc 3 1, 3) := by decide +kernel
theorem d_Mo_writeFile_58 : decode jM_Mo_writeFile.2.1 58 = .ok (.goto (-43), 3) := by decide +kernel
theorem d_Mo_writeFile_61 : decode jM_Mo_writeFile.2.1 61 = .ok (.aload_n 0, 1) := by decide +kernel
theorem d_Mo_writeFile_62 : decode jM_Mo_writeFile.2.1 62 = .ok (.iload_n 1, 1) := by decide +kernel
theorem d_Mo_writeFile_63 : decode jM_Mo_writeFile.2.1 63 = .ok (.iload_n 2, 1) := by decide +kernel
theorem d_Mo_writeFile_64 : decode jM_Mo_writeFile.2.1 64 = .ok (.iadd, 1) := by decide +kernel
theorem d_Mo_writeFile_65 : decode jM_Mo_writeFile.2.1 65 = .ok (.invokevirtual 183, 3) := by decide +kernel
theorem d_Mo_writeFile_68 : decode jM_Mo_writeFile.2.1 68 = .ok (.ifCond .ne 5, 3) := by decide +kernel
theorem d_Mo_writeFile_71 : decode jM_Mo_writeFile.2.1 71 = .ok (.iconst 0, 1) := by decide +kernel
theorem d_Mo_writeFile_72 : decode jM_Mo_writeFile.2.1 72 = .ok (.ireturn, 1) := by decide +kernel
theorem d_Mo_writeFile_73 : decode jM_Mo_writeFile.2.1 73 = .ok (.iinc 2 1, 3) := by decide +kernel
theorem d_Mo_writeFile_76 : decode jM_Mo_writeFile.2.1 76 = .ok (.goto (-74), 3) := by decide +kernel
theorem d_Mo_writeFile_79 : decode jM_Mo_writeFile.2.1 79 = .ok (.iconst 1, 1) := by decide +kernel
theorem d_Mo_writeFile_80 : decode jM_Mo_writeFile.2.1 80 = .ok (.ireturn, 1) := by decide +kernel
theorem d_Mo_fileSubject_0 : decode jM_Mo_fileSubject.2.1 0 = .ok (.aload_n 0, 1) := by decide +kernel
theorem d_Mo_fileSubject_1 : decode jM_Mo_fileSubject.2.1 1 = .ok (.getfield 48, 3) := by decide +kernel
theorem d_Mo_fileSubject_4 : decode jM_Mo_fileSubject.2.1 4 = .ok (.iconst 1, 1) := by decide +kernel
theorem d_Mo_fileSubject_5 : decode jM_Mo_fileSubject.2.1 5 = .ok (.iconst 3, 1) := by decide +kernel
theorem d_Mo_fileSubject_6 : decode jM_Mo_fileSubject.2.1 6 = .ok (.iload_n 1, 1) := by decide +kernel
theorem d_Mo_fileSubject_7 : decode jM_Mo_fileSubject.2.1 7 = .ok (.imul, 1) := by decide +kernel
theorem d_Mo_fileSubject_8 : decode jM_Mo_fileSubject.2.1 8 = .ok (.iadd, 1) := by decide +kernel
theorem d_Mo_fileSubject_9 : decode jM_Mo_fileSubject.2.1 9 = .ok (.iaload, 1) := by decide +kernel
theorem d_Mo_fileSubject_10 : decode jM_Mo_fileSubject.2.1 10 = .ok (.ireturn, 1) := by decide +kernel
theorem d_Mo_fileAt_0 : decode jM_Mo_fileAt.2.1 0 = .ok (.bipush 32, 2) := by decide +kernel
theorem d_Mo_fileAt_2 : decode jM_Mo_fileAt.2.1 2 = .ok (.aload_n 0, 1) := by decide +kernel
theorem d_Mo_fileAt_3 : decode jM_Mo_fileAt.2.1 3 = .ok (.getfield 48, 3) := by decide +kernel
theorem d_Mo_fileAt_6 : decode jM_Mo_fileAt.2.1 6 = .ok (.iconst 2, 1) := by decide +kernel
theorem d_Mo_fileAt_7 : decode jM_Mo_fileAt.2.1 7 = .ok (.iconst 3, 1) := by decide +kernel
theorem d_Mo_fileAt_8 : decode jM_Mo_fileAt.2.1 8 = .ok (.iload_n 1, 1) := by decide +kernel
theorem d_Mo_fileAt_9 : decode jM_Mo_fileAt.2.1 9 = .ok (.imul, 1) := by decide +kernel
theorem d_Mo_fileAt_10 : decode jM_Mo_fileAt.2.1 10 = .ok (.iadd, 1) := by decide +kernel
theorem d_Mo_fileAt_11 : decode jM_Mo_fileAt.2.1 11 = .ok (.iaload, 1) := by decide +kernel
theorem d_Mo_fileAt_12 : decode jM_Mo_fileAt.2.1 12 = .ok (.imul, 1) := by decide +kernel
theorem d_Mo_fileAt_13 : decode jM_Mo_fileAt.2.1 13 = .ok (.ireturn, 1) := by decide +kernel
theorem d_Mo_fileSchema_0 : decode jM_Mo_fileSchema.2.1 0 = .ok (.aload_n 0, 1) := by decide +kernel
theorem d_Mo_fileSchema_1 : decode jM_Mo_fileSchema.2.1 1 = .ok (.getfield 48, 3) := by decide +kernel
theorem d_Mo_fileSchema_4 : decode jM_Mo_fileSchema.2.1 4 = .ok (.aload_n 0, 1) := by decide +kernel
theorem d_Mo_fileSchema_5 : decode jM_Mo_fileSchema.2.1 5 = .ok (.iload_n 1, 1) := by decide +kernel
theorem d_Mo_fileSchema_6 : decode jM_Mo_fileSchema.2.1 6 = .ok (.invokevirtual 186, 3) := by decide +kernel
theorem d_Mo_fileSchema_9 : decode jM_Mo_fileSchema.2.1 9 = .ok (.iconst 1, 1) := by decide +kernel
theorem d_Mo_fileSchema_10 : decode jM_Mo_fileSchema.2.1 10 = .ok (.iadd, 1) := by decide +kernel
theorem d_Mo_fileSchema_11 : decode jM_Mo_fileSchema.2.1 11 = .ok (.iaload, 1) := by decide +kernel
theorem d_Mo_fileSchema_12 : decode jM_Mo_fileSchema.2.1 12 = .ok (.ireturn, 1) := by decide +kernel
theorem d_Mo_fileRecords_0 : decode jM_Mo_fileRecords.2.1 0 = .ok (.aload_n 0, 1) := by decide +kernel
theorem d_Mo_fileRecords_1 : decode jM_Mo_fileRecords.2.1 1 = .ok (.getfield 48, 3) := by decide +kernel
theorem d_Mo_fileRecords_4 : decode jM_Mo_fileRecords.2.1 4 = .ok (.aload_n 0, 1) := by decide +kernel
theorem d_Mo_fileRecords_5 : decode jM_Mo_fileRecords.2.1 5 = .ok (.iload_n 1, 1) := by decide +kernel
theorem d_Mo_fileRecords_6 : decode jM_Mo_fileRecords.2.1 6 = .ok (.invokevirtual 186, 3) := by decide +kernel
theorem d_Mo_fileRecords_9 : decode jM_Mo_fileRecords.2.1 9 = .ok (.iconst 2, 1) := by decide +kernel
theorem d_Mo_fileRecords_10 : decode jM_Mo_fileRecords.2.1 10 = .ok (.iadd, 1) := by decide +kernel
