/-! The law: its instructions, links, function and walk (printed by emit.py). -/
def jM_Law_law : MethodName × ByteArray × Nat × Option FieldType := (x, code, maxLocals, ret)
theorem d_Law_law_0 : decode jM_Law_law.2.1 0 = .ok (.new 7, 3) := by decide +kernel
theorem d_Law_law_3 : decode jM_Law_law.2.1 3 = .ok (.dup, 1) := by decide +kernel
theorem d_Law_law_4 : decode jM_Law_law.2.1 4 = .ok (.invokespecial 9, 3) := by decide +kernel
theorem d_Law_law_7 : decode jM_Law_law.2.1 7 = .ok (.astore_n 1, 1) := by decide +kernel
theorem d_Law_law_8 : decode jM_Law_law.2.1 8 = .ok (.new 10, 3) := by decide +kernel
theorem d_Law_law_11 : decode jM_Law_law.2.1 11 = .ok (.dup, 1) := by decide +kernel
theorem d_Law_law_12 : decode jM_Law_law.2.1 12 = .ok (.invokespecial 12, 3) := by decide +kernel
theorem d_Law_law_15 : decode jM_Law_law.2.1 15 = .ok (.astore_n 2, 1) := by decide +kernel
theorem d_Law_law_16 : decode jM_Law_law.2.1 16 = .ok (.iconst 0, 1) := by decide +kernel
theorem d_Law_law_17 : decode jM_Law_law.2.1 17 = .ok (.istore_n 3, 1) := by decide +kernel
theorem d_Law_law_18 : decode jM_Law_law.2.1 18 = .ok (.iload_n 3, 1) := by decide +kernel
theorem d_Law_law_19 : decode jM_Law_law.2.1 19 = .ok (.aload_n 0, 1) := by decide +kernel
theorem d_Law_law_20 : decode jM_Law_law.2.1 20 = .ok (.arraylength, 1) := by decide +kernel
theorem d_Law_law_21 : decode jM_Law_law.2.1 21 = .ok (.bipush 6, 2) := by decide +kernel
theorem d_Law_law_23 : decode jM_Law_law.2.1 23 = .ok (.isub, 1) := by decide +kernel
theorem d_Law_law_24 : decode jM_Law_law.2.1 24 = .ok (.if_icmp .gt 710, 3) := by decide +kernel
theorem d_Law_law_27 : decode jM_Law_law.2.1 27 = .ok (.aload_n 0, 1) := by decide +kernel
theorem d_Law_law_28 : decode jM_Law_law.2.1 28 = .ok (.iload_n 3, 1) := by decide +kernel
theorem d_Law_law_29 : decode jM_Law_law.2.1 29 = .ok (.iaload, 1) := by decide +kernel
theorem d_Law_law_30 : decode jM_Law_law.2.1 30 = .ok (.bipush 31, 2) := by decide +kernel
theorem d_Law_law_32 : decode jM_Law_law.2.1 32 = .ok (.iand, 1) := by decide +kernel
theorem d_Law_law_33 : decode jM_Law_law.2.1 33 = .ok (.tableswitch 695 0 18 #[91, 190, 243, 276, 309, 332, 365, 418, 441, 454, 477, 500, 543, 567, 590, 613, 646, 669, 682], 91) := by decide +kernel
theorem d_Law_law_124 : decode jM_Law_law.2.1 124 = .ok (.aload_n 1, 1) := by decide +kernel
theorem d_Law_law_125 : decode jM_Law_law.2.1 125 = .ok (.aload_n 0, 1) := by decide +kernel
theorem d_Law_law_126 : decode jM_Law_law.2.1 126 = .ok (.iload_n 3, 1) := by decide +kernel
theorem d_Law_law_127 : decode jM_Law_law.2.1 127 = .ok (.iconst 1, 1) := by decide +kernel
theorem d_Law_law_128 : decode jM_Law_law.2.1 128 = .ok (.iadd, 1) := by decide +kernel
theorem d_Law_law_129 : decode jM_Law_law.2.1 129 = .ok (.iaload, 1) := by decide +kernel
theorem d_Law_law_130 : decode jM_Law_law.2.1 130 = .ok (.aload_n 0, 1) := by decide +kernel
theorem d_Law_law_131 : decode jM_Law_law.2.1 131 = .ok (.iload_n 3, 1) := by decide +kernel
theorem d_Law_law_132 : decode jM_Law_law.2.1 132 = .ok (.iconst 2, 1) := by decide +kernel
theorem d_Law_law_133 : decode jM_Law_law.2.1 133 = .ok (.iadd, 1) := by decide +kernel
theorem d_Law_law_134 : decode jM_Law_law.2.1 134 = .ok (.iaload, 1) := by decide +kernel
theorem d_Law_law_135 : decode jM_Law_law.2.1 135 = .ok (.aload_n 0, 1) := by decide +kernel
theorem d_Law_law_136 : decode jM_Law_law.2.1 136 = .ok (.iload_n 3, 1) := by decide +kernel
theorem d_Law_law_137 : decode jM_Law_law.2.1 137 = .ok (.iconst 3, 1) := by decide +kernel
theorem d_Law_law_138 : decode jM_Law_law.2.1 138 = .ok (.iadd, 1) := by decide +kernel
theorem d_Law_law_139 : decode jM_Law_law.2.1 139 = .ok (.iaload, 1) := by decide +kernel
theorem d_Law_law_140 : decode jM_Law_law.2.1 140 = .ok (.ifCond .eq 7, 3) := by decide +kernel
theorem d_Law_law_143 : decode jM_Law_law.2.1 143 = .ok (.iconst 1, 1) := by decide +kernel
theorem d_Law_law_144 : decode jM_Law_law.2.1 144 = .ok (.goto 4, 3) := by decide +kernel
theorem d_Law_law_147 : decode jM_Law_law.2.1 147 = .ok (.iconst 0, 1) := by decide +kernel
theorem d_Law_law_148 : decode jM_Law_law.2.1 148 = .ok (.aload_n 0, 1) := by decide +kernel
theorem d_Law_law_149 : decode jM_Law_law.2.1 149 = .ok (.iload_n 3, 1) := by decide +kernel
theorem d_Law_law_150 : decode jM_Law_law.2.1 150 = .ok (.iconst 4, 1) := by decide +kernel
theorem d_Law_law_151 : decode jM_Law_law.2.1 151 = .ok (.iadd, 1) := by decide +kernel
theorem d_Law_law_152 : decode jM_Law_law.2.1 152 = .ok (.iaload, 1) := by decide +kernel
theorem d_Law_law_153 : decode jM_Law_law.2.1 153 = .ok (.i2l, 1) := by decide +kernel
theorem d_Law_law_154 : decode jM_Law_law.2.1 154 = .ok (.bipush 32, 2) := by decide +kernel
theorem d_Law_law_156 : decode jM_Law_law.2.1 156 = .ok (.lshl, 1) := by decide +kernel
theorem d_Law_law_157 : decode jM_Law_law.2.1 157 = .ok (.aload_n 0, 1) := by decide +kernel
theorem d_Law_law_158 : decode jM_Law_law.2.1 158 = .ok (.iload_n 3, 1) := by decide +kernel
theorem d_Law_law_159 : decode jM_Law_law.2.1 159 = .ok (.iconst 5, 1) := by decide +kernel
theorem d_Law_law_160 : decode jM_Law_law.2.1 160 = .ok (.iadd, 1) := by decide +kernel
theorem d_Law_law_161 : decode jM_Law_law.2.1 161 = .ok (.iaload, 1) := by decide +kernel
theorem d_Law_law_162 : decode jM_Law_law.2.1 162 = .ok (.i2l, 1) := by decide +kernel
theorem d_Law_law_163 : decode jM_Law_law.2.1 163 = .ok (.ldc2_w 13, 3) := by decide +kernel
theorem d_Law_law_166 : decode jM_Law_law.2.1 166 = .ok (.land, 1) := by decide +kernel
theorem d_Law_law_167 : decode jM_Law_law.2.1 167 = .ok (.lor, 1) := by decide +kernel
theorem d_Law_law_168 : decode jM_Law_law.2.1 168 = .ok (.invokevirtual 15, 3) := by decide +kernel
theorem d_Law_law_171 : decode jM_Law_law.2.1 171 = .ok (.aload_n 2, 1) := by decide +kernel
theorem d_Law_law_172 : decode jM_Law_law.2.1 172 = .ok (.aload_n 0, 1) := by decide +kernel
theorem d_Law_law_173 : decode jM_Law_law.2.1 173 = .ok (.iload_n 3, 1) := by decide +kernel
theorem d_Law_law_174 : decode jM_Law_law.2.1 174 = .ok (.iconst 1, 1) := by decide +kernel
theorem d_Law_law_175 : decode jM_Law_law.2.1 175 = .ok (.iadd, 1) := by decide +kernel
theorem d_Law_law_176 : decode jM_Law_law.2.1 176 = .ok (.iaload, 1) := by decide +kernel
theorem d_Law_law_177 : decode jM_Law_law.2.1 177 = .ok (.aload_n 0, 1) := by decide +kernel
theorem d_Law_law_178 : decode jM_Law_law.2.1 178 = .ok (.iload_n 3, 1) := by decide +kernel
theorem d_Law_law_179 : decode jM_Law_law.2.1 179 = .ok (.iconst 2, 1) := by decide +kernel
theorem d_Law_law_180 : decode jM_Law_law.2.1 180 = .ok (.iadd, 1) := by decide +kernel
theorem d_Law_law_181 : decode jM_Law_law.2.1 181 = .ok (.iaload, 1) := by decide +kernel
theorem d_Law_law_182 : decode jM_Law_law.2.1 182 = .ok (.aload_n 0, 1) := by decide +kernel
theorem d_Law_law_183 : decode jM_Law_law.2.1 183 = .ok (.iload_n 3, 1) := by decide +kernel
theorem d_Law_law_184 : decode jM_Law_law.2.1 184 = .ok (.iconst 3, 1) := by decide +kernel
theorem d_Law_law_185 : decode jM_Law_law.2.1 185 = .ok (.iadd, 1) := by decide +kernel
theorem d_Law_law_186 : decode jM_Law_law.2.1 186 = .ok (.iaload, 1) := by decide +kernel
theorem d_Law_law_187 : decode jM_Law_law.2.1 187 = .ok (.ifCond .eq 7, 3) := by decide +kernel
theorem d_Law_law_190 : decode jM_Law_law.2.1 190 = .ok (.iconst 1, 1) := by decide +kernel
theorem d_Law_law_191 : decode jM_Law_law.2.1 191 = .ok (.goto 4, 3) := by decide +kernel
theorem d_Law_law_194 : decode jM_Law_law.2.1 194 = .ok (.iconst 0, 1) := by decide +kernel
theorem d_Law_law_195 : decode jM_Law_law.2.1 195 = .ok (.aload_n 0, 1) := by decide +kernel
theorem d_Law_law_196 : decode jM_Law_law.2.1 196 = .ok (.iload_n 3, 1) := by decide +kernel
theorem d_Law_law_197 : decode jM_Law_law.2.1 197 = .ok (.iconst 4, 1) := by decide +kernel
theorem d_Law_law_198 : decode jM_Law_law.2.1 198 = .ok (.iadd, 1) := by decide +kernel
theorem d_Law_law_199 : decode jM_Law_law.2.1 199 = .ok (.iaload, 1) := by decide +kernel
theorem d_Law_law_200 : decode jM_Law_law.2.1 200 = .ok (.i2l, 1) := by decide +kernel
theorem d_Law_law_201 : decode jM_Law_law.2.1 201 = .ok (.bipush 32, 2) := by decide +kernel
theorem d_Law_law_203 : decode jM_Law_law.2.1 203 = .ok (.lshl, 1) := by decide +kernel
theorem d_Law_law_204 : decode jM_Law_law.2.1 204 = .ok (.aload_n 0, 1) := by decide +kernel
theorem d_Law_law_205 : decode jM_Law_law.2.1 205 = .ok (.iload_n 3, 1) := by decide +kernel
theorem d_Law_law_206 : decode jM_Law_law.2.1 206 = .ok (.iconst 5, 1) := by decide +kernel
theorem d_Law_law_207 : decode jM_Law_law.2.1 207 = .ok (.iadd, 1) := by decide +kernel
theorem d_Law_law_208 : decode jM_Law_law.2.1 208 = .ok (.iaload, 1) := by decide +kernel
theorem d_Law_law_209 : decode jM_Law_law.2.1 209 = .ok (.i2l, 1) := by decide +kernel
theorem d_Law_law_210 : decode jM_Law_law.2.1 210 = .ok (.ldc2_w 13, 3) := by decide +kernel
theorem d_Law_law_213 : decode jM_Law_law.2.1 213 = .ok (.land, 1) := by decide +kernel
theorem d_Law_law_214 : decode jM_Law_law.2.1 214 = .ok (.lor, 1) := by decide +kernel
theorem d_Law_law_215 : decode jM_Law_law.2.1 215 = .ok (.invokevirtual 19, 3) := by decide +kernel
theorem d_Law_law_218 : decode jM_Law_law.2.1 218 = .ok (.if_icmp .eq 510, 3) := by decide +kernel
theorem d_Law_law_221 : decode jM_Law_law.2.1 221 = .ok (.iconst 0, 1) := by decide +kernel
theorem d_Law_law_222 : decode jM_Law_law.2.1 222 = .ok (.ireturn, 1) := by decide +kernel
theorem d_Law_law_223 : decode jM_Law_law.2.1 223 = .ok (.aload_n 1, 1) := by decide +kernel
theorem d_Law_law_224 : decode jM_Law_law.2.1 224 = .ok (.aload_n 0, 1) := by decide +kernel
theorem d_Law_law_225 : decode jM_Law_law.2.1 225 = .ok (.iload_n 3, 1) := by decide +kernel
theorem d_Law_law_226 : decode jM_Law_law.2.1 226 = .ok (.iconst 1, 1) := by decide +kernel
theorem d_Law_law_227 : decode jM_Law_law.2.1 227 = .ok (.iadd, 1) := by decide +kernel
theorem d_Law_law_228 : decode jM_Law_law.2.1 228 = .ok (.iaload, 1) := by decide +kernel
theorem d_Law_law_229 : decode jM_Law_law.2.1 229 = .ok (.aload_n 0, 1) := by decide +kernel
theorem d_Law_law_230 : decode jM_Law_law.2.1 230 = .ok (.iload_n 3, 1) := by decide +kernel
theorem d_Law_law_231 : decode jM_Law_law.2.1 231 = .ok (.iconst 2, 1) := by decide +kernel
theorem d_Law_law_232 : decode jM_Law_law.2.1 232 = .ok (.iadd, 1) := by decide +kernel
theorem d_Law_law_233 : decode jM_Law_law.2.1 233 = .ok (.iaload, 1) := by decide +kernel
theorem d_Law_law_234 : decode jM_Law_law.2.1 234 = .ok (.aload_n 0, 1) := by decide +kernel
theorem d_Law_law_235 : decode jM_Law_law.2.1 235 = .ok (.iload_n 3, 1) := by decide +kernel
theorem d_Law_law_236 : decode jM_Law_law.2.1 236 = .ok (.iconst 3, 1) := by decide +kernel
theorem d_Law_law_237 : decode jM_Law_law.2.1 237 = .ok (.iadd, 1) := by decide +kernel
theorem d_Law_law_238 : decode jM_Law_law.2.1 238 = .ok (.iaload, 1) := by decide +kernel
theorem d_Law_law_239 : decode jM_Law_law.2.1 239 = .ok (.aload_n 0, 1) := by decide +kernel
theorem d_Law_law_240 : decode jM_Law_law.2.1 240 = .ok (.iload_n 3, 1) := by decide +kernel
theorem d_Law_law_241 : decode jM_Law_law.2.1 241 = .ok (.iconst 4, 1) := by decide +kernel
theorem d_Law_law_242 : decode jM_Law_law.2.1 242 = .ok (.iadd, 1) := by decide +kernel
theorem d_Law_law_243 : decode jM_Law_law.2.1 243 = .ok (.iaload, 1) := by decide +kernel
theorem d_Law_law_244 : decode jM_Law_law.2.1 244 = .ok (.invokevirtual 20, 3) := by decide +kernel
theorem d_Law_law_247 : decode jM_Law_law.2.1 247 = .ok (.aload_n 2, 1) := by decide +kernel
theorem d_Law_law_248 : decode jM_Law_law.2.1 248 = .ok (.aload_n 0, 1) := by decide +kernel
theorem d_Law_law_249 : decode jM_Law_law.2.1 249 = .ok (.iload_n 3, 1) := by decide +kernel
theorem d_Law_law_250 : decode jM_Law_law.2.1 250 = .ok (.iconst 1, 1) := by decide +kernel
theorem d_Law_law_251 : decode jM_Law_law.2.1 251 = .ok (.iadd, 1) := by decide +kernel
theorem d_Law_law_252 : decode jM_Law_law.2.1 252 = .ok (.iaload, 1) := by decide +kernel
theorem d_Law_law_253 : decode jM_Law_law.2.1 253 = .ok (.aload_n 0, 1) := by decide +kernel
theorem d_Law_law_254 : decode jM_Law_law.2.1 254 = .ok (.iload_n 3, 1) := by decide +kernel
theorem d_Law_law_255 : decode jM_Law_law.2.1 255 = .ok (.iconst 2, 1) := by decide +kernel
theorem d_Law_law_256 : decode jM_Law_law.2.1 256 = .ok (.iadd, 1) := by decide +kernel
theorem d_Law_law_257 : decode jM_Law_law.2.1 257 = .ok (.iaload, 1) := by decide +kernel
theorem d_Law_law_258 : decode jM_Law_law.2.1 258 = .ok (.aload_n 0, 1) := by decide +kernel
theorem d_Law_law_259 : decode jM_Law_law.2.1 259 = .ok (.iload_n 3, 1) := by decide +kernel
theorem d_Law_law_260 : decode jM_Law_law.2.1 260 = .ok (.iconst 3, 1) := by decide +kernel
theorem d_Law_law_261 : decode jM_Law_law.2.1 261 = .ok (.iadd, 1) := by decide +kernel
theorem d_Law_law_262 : decode jM_Law_law.2.1 262 = .ok (.iaload, 1) := by decide +kernel
theorem d_Law_law_263 : decode jM_Law_law.2.1 263 = .ok (.aload_n 0, 1) := by decide +kernel
theorem d_Law_law_264 : decode jM_Law_law.2.1 264 = .ok (.iload_n 3, 1) := by decide +kernel
theorem d_Law_law_265 : decode jM_Law_law.2.1 265 = .ok (.iconst 4, 1) := by decide +kernel
theorem d_Law_law_266 : decode jM_Law_law.2.1 266 = .ok (.iadd, 1) := by decide +kernel
theorem d_Law_law_267 : decode jM_Law_law.2.1 267 = .ok (.iaload, 1) := by decide +kernel
theorem d_Law_law_268 : decode jM_Law_law.2.1 268 = .ok (.invokevirtual 24, 3) := by decide +kernel
theorem d_Law_law_271 : decode jM_Law_law.2.1 271 = .ok (.if_icmp .eq 457, 3) := by decide +kernel
theorem d_Law_law_274 : decode jM_Law_law.2.1 274 = .ok (.iconst 0, 1) := by decide +kernel
theorem d_Law_law_275 : decode jM_Law_law.2.1 275 = .ok (.ireturn, 1) := by decide +kernel
theorem d_Law_law_276 : decode jM_Law_law.2.1 276 = .ok (.aload_n 1, 1) := by decide +kernel
theorem d_Law_law_277 : decode jM_Law_law.2.1 277 = .ok (.aload_n 0, 1) := by decide +kernel
theorem d_Law_law_278 : decode jM_Law_law.2.1 278 = .ok (.iload_n 3, 1) := by decide +kernel
theorem d_Law_law_279 : decode jM_Law_law.2.1 279 = .ok (.iconst 1, 1) := by decide +kernel
theorem d_Law_law_280 : decode jM_Law_law.2.1 280 = .ok (.iadd, 1) := by decide +kernel
theorem d_Law_law_281 : decode jM_Law_law.2.1 281 = .ok (.iaload, 1) := by decide +kernel
theorem d_Law_law_282 : decode jM_Law_law.2.1 282 = .ok (.aload_n 0, 1) := by decide +kernel
theorem d_Law_law_283 : decode jM_Law_law.2.1 283 = .ok (.iload_n 3, 1) := by decide +kernel
theorem d_Law_law_284 : decode jM_Law_law.2.1 284 = .ok (.iconst 2, 1) := by decide +kernel
theorem d_Law_law_285 : decode jM_Law_law.2.1 285 = .ok (.iadd, 1) := by decide +kernel
theorem d_Law_law_286 : decode jM_Law_law.2.1 286 = .ok (.iaload, 1) := by decide +kernel
theorem d_Law_law_287 : decode jM_Law_law.2.1 287 = .ok (.invokevirtual 25, 3) := by decide +kernel
theorem d_Law_law_290 : decode jM_Law_law.2.1 290 = .ok (.aload_n 2, 1) := by decide +kernel
theorem d_Law_law_291 : decode jM_Law_law.2.1 291 = .ok (.aload_n 0, 1) := by decide +kernel
theorem d_Law_law_292 : decode jM_Law_law.2.1 292 = .ok (.iload_n 3, 1) := by decide +kernel
theorem d_Law_law_293 : decode jM_Law_law.2.1 293 = .ok (.iconst 1, 1) := by decide +kernel
theorem d_Law_law_294 : decode jM_Law_law.2.1 294 = .ok (.iadd, 1) := by decide +kernel
theorem d_Law_law_295 : decode jM_Law_law.2.1 295 = .ok (.iaload, 1) := by decide +kernel
theorem d_Law_law_296 : decode jM_Law_law.2.1 296 = .ok (.aload_n 0, 1) := by decide +kernel
theorem d_Law_law_297 : decode jM_Law_law.2.1 297 = .ok (.iload_n 3, 1) := by decide +kernel
theorem d_Law_law_298 : decode jM_Law_law.2.1 298 = .ok (.iconst 2, 1) := by decide +kernel
theorem d_Law_law_299 : decode jM_Law_law.2.1 299 = .ok (.iadd, 1) := by decide +kernel
theorem d_Law_law_300 : decode jM_Law_law.2.1 300 = .ok (.iaload, 1) := by decide +kernel
theorem d_Law_law_301 : decode jM_Law_law.2.1 301 = .ok (.invokevirtual 29, 3) := by decide +kernel
theorem d_Law_law_304 : decode jM_Law_law.2.1 304 = .ok (.if_icmp .eq 424, 3) := by decide +kernel
theorem d_Law_law_307 : decode jM_Law_law.2.1 307 = .ok (.iconst 0, 1) := by decide +kernel
theorem d_Law_law_308 : decode jM_Law_law.2.1 308 = .ok (.ireturn, 1) := by decide +kernel
theorem d_Law_law_309 : decode jM_Law_law.2.1 309 = .ok (.aload_n 1, 1) := by decide +kernel
theorem d_Law_law_310 : decode jM_Law_law.2.1 310 = .ok (.aload_n 0, 1) := by decide +kernel
theorem d_Law_law_311 : decode jM_Law_law.2.1 311 = .ok (.iload_n 3, 1) := by decide +kernel
theorem d_Law_law_312 : decode jM_Law_law.2.1 312 = .ok (.iconst 1, 1) := by decide +kernel
theorem d_Law_law_313 : decode jM_Law_law.2.1 313 = .ok (.iadd, 1) := by decide +kernel
theorem d_Law_law_314 : decode jM_Law_law.2.1 314 = .ok (.iaload, 1) := by decide +kernel
theorem d_Law_law_315 : decode jM_Law_law.2.1 315 = .ok (.aload_n 0, 1) := by decide +kernel
theorem d_Law_law_316 : decode jM_Law_law.2.1 316 = .ok (.iload_n 3, 1) := by decide +kernel
theorem d_Law_law_317 : decode jM_Law_law.2.1 317 = .ok (.iconst 2, 1) := by decide +kernel
theorem d_Law_law_318 : decode jM_Law_law.2.1 318 = .ok (.iadd, 1) := by decide +kernel
theorem d_Law_law_319 : decode jM_Law_law.2.1 319 = .ok (.iaload, 1) := by decide +kernel
theorem d_Law_law_320 : decode jM_Law_law.2.1 320 = .ok (.invokevirtual 30, 3) := by decide +kernel
theorem d_Law_law_323 : decode jM_Law_law.2.1 323 = .ok (.aload_n 2, 1) := by decide +kernel
theorem d_Law_law_324 : decode jM_Law_law.2.1 324 = .ok (.aload_n 0, 1) := by decide +kernel
theorem d_Law_law_325 : decode jM_Law_law.2.1 325 = .ok (.iload_n 3, 1) := by decide +kernel
theorem d_Law_law_326 : decode jM_Law_law.2.1 326 = .ok (.iconst 1, 1) := by decide +kernel
theorem d_Law_law_327 : decode jM_Law_law.2.1 327 = .ok (.iadd, 1) := by decide +kernel
theorem d_Law_law_328 : decode jM_Law_law.2.1 328 = .ok (.iaload, 1) := by decide +kernel
theorem d_Law_law_329 : decode jM_Law_law.2.1 329 = .ok (.aload_n 0, 1) := by decide +kernel
theorem d_Law_law_330 : decode jM_Law_law.2.1 330 = .ok (.iload_n 3, 1) := by decide +kernel
theorem d_Law_law_331 : decode jM_Law_law.2.1 331 = .ok (.iconst 2, 1) := by decide +kernel
theorem d_Law_law_332 : decode jM_Law_law.2.1 332 = .ok (.iadd, 1) := by decide +kernel
theorem d_Law_law_333 : decode jM_Law_law.2.1 333 = .ok (.iaload, 1) := by decide +kernel
theorem d_Law_law_334 : decode jM_Law_law.2.1 334 = .ok (.invokevirtual 34, 3) := by decide +kernel
theorem d_Law_law_337 : decode jM_Law_law.2.1 337 = .ok (.if_icmp .eq 391, 3) := by decide +kernel
theorem d_Law_law_340 : decode jM_Law_law.2.1 340 = .ok (.iconst 0, 1) := by decide +kernel
theorem d_Law_law_341 : decode jM_Law_law.2.1 341 = .ok (.ireturn, 1) := by decide +kernel
theorem d_Law_law_342 : decode jM_Law_law.2.1 342 = .ok (.aload_n 1, 1) := by decide +kernel
theorem d_Law_law_343 : decode jM_Law_law.2.1 343 = .ok (.aload_n 0, 1) := by decide +kernel
theorem d_Law_law_344 : decode jM_Law_law.2.1 344 = .ok (.iload_n 3, 1) := by decide +kernel
theorem d_Law_law_345 : decode jM_Law_law.2.1 345 = .ok (.iconst 1, 1) := by decide +kernel
theorem d_Law_law_346 : decode jM_Law_law.2.1 346 = .ok (.iadd, 1) := by decide +kernel
theorem d_Law_law_347 : decode jM_Law_law.2.1 347 = .ok (.iaload, 1) := by decide +kernel
theorem d_Law_law_348 : decode jM_Law_law.2.1 348 = .ok (.invokevirtual 35, 3) := by decide +kernel
theorem d_Law_law_351 : decode jM_Law_law.2.1 351 = .ok (.aload_n 2, 1) := by decide +kernel
theorem d_Law_law_352 : decode jM_Law_law.2.1 352 = .ok (.aload_n 0, 1) := by decide +kernel
theorem d_Law_law_353 : decode jM_Law_law.2.1 353 = .ok (.iload_n 3, 1) := by decide +kernel
theorem d_Law_law_354 : decode jM_Law_law.2.1 354 = .ok (.iconst 1, 1) := by decide +kernel
theorem d_Law_law_355 : decode jM_Law_law.2.1 355 = .ok (.iadd, 1) := by decide +kernel
theorem d_Law_law_356 : decode jM_Law_law.2.1 356 = .ok (.iaload, 1) := by decide +kernel
theorem d_Law_law_357 : decode jM_Law_law.2.1 357 = .ok (.invokevirtual 39, 3) := by decide +kernel
theorem d_Law_law_360 : decode jM_Law_law.2.1 360 = .ok (.if_icmp .eq 368, 3) := by decide +kernel
theorem d_Law_law_363 : decode jM_Law_law.2.1 363 = .ok (.iconst 0, 1) := by decide +kernel
theorem d_Law_law_364 : decode jM_Law_law.2.1 364 = .ok (.ireturn, 1) := by decide +kernel
theorem d_Law_law_365 : decode jM_Law_law.2.1 365 = .ok (.aload_n 1, 1) := by decide +kernel
theorem d_Law_law_366 : decode jM_Law_law.2.1 366 = .ok (.aload_n 0, 1) := by decide +kernel
theorem d_Law_law_367 : decode jM_Law_law.2.1 367 = .ok (.iload_n 3, 1) := by decide +kernel
theorem d_Law_law_368 : decode jM_Law_law.2.1 368 = .ok (.iconst 1, 1) := by decide +kernel
theorem d_Law_law_369 : decode jM_Law_law.2.1 369 = .ok (.iadd, 1) := by decide +kernel
theorem d_Law_law_370 : decode jM_Law_law.2.1 370 = .ok (.iaload, 1) := by decide +kernel
theorem d_Law_law_371 : decode jM_Law_law.2.1 371 = .ok (.aload_n 0, 1) := by decide +kernel
theorem d_Law_law_372 : decode jM_Law_law.2.1 372 = .ok (.iload_n 3, 1) := by decide +kernel
theorem d_Law_law_373 : decode jM_Law_law.2.1 373 = .ok (.iconst 2, 1) := by decide +kernel
theorem d_Law_law_374 : decode jM_Law_law.2.1 374 = .ok (.iadd, 1) := by decide +kernel
theorem d_Law_law_375 : decode jM_Law_law.2.1 375 = .ok (.iaload, 1) := by decide +kernel
theorem d_Law_law_376 : decode jM_Law_law.2.1 376 = .ok (.invokevirtual 40, 3) := by decide +kernel
theorem d_Law_law_379 : decode jM_Law_law.2.1 379 = .ok (.aload_n 2, 1) := by decide +kernel
theorem d_Law_law_380 : decode jM_Law_law.2.1 380 = .ok (.aload_n 0, 1) := by decide +kernel
theorem d_Law_law_381 : decode jM_Law_law.2.1 381 = .ok (.iload_n 3, 1) := by decide +kernel
theorem d_Law_law_382 : decode jM_Law_law.2.1 382 = .ok (.iconst 1, 1) := by decide +kernel
theorem d_Law_law_383 : decode jM_Law_law.2.1 383 = .ok (.iadd, 1) := by decide +kernel
theorem d_Law_law_384 : decode jM_Law_law.2.1 384 = .ok (.iaload, 1) := by decide +kernel
theorem d_Law_law_385 : decode jM_Law_law.2.1 385 = .ok (.aload_n 0, 1) := by decide +kernel
theorem d_Law_law_386 : decode jM_Law_law.2.1 386 = .ok (.iload_n 3, 1) := by decide +kernel
theorem d_Law_law_387 : decode jM_Law_law.2.1 387 = .ok (.iconst 2, 1) := by decide +kernel
theorem d_Law_law_388 : decode jM_Law_law.2.1 388 = .ok (.iadd, 1) := by decide +kernel
theorem d_Law_law_389 : decode jM_Law_law.2.1 389 = .ok (.iaload, 1) := by decide +kernel
theorem d_Law_law_390 : decode jM_Law_law.2.1 390 = .ok (.invokevirtual 43, 3) := by decide +kernel
theorem d_Law_law_393 : decode jM_Law_law.2.1 393 = .ok (.if_icmp .eq 335, 3) := by decide +kernel
theorem d_Law_law_396 : decode jM_Law_law.2.1 396 = .ok (.iconst 0, 1) := by decide +kernel
theorem d_Law_law_397 : decode jM_Law_law.2.1 397 = .ok (.ireturn, 1) := by decide +kernel
theorem d_Law_law_398 : decode jM_Law_law.2.1 398 = .ok (.aload_n 1, 1) := by decide +kernel
theorem d_Law_law_399 : decode jM_Law_law.2.1 399 = .ok (.aload_n 0, 1) := by decide +kernel
theorem d_Law_law_400 : decode jM_Law_law.2.1 400 = .ok (.iload_n 3, 1) := by decide +kernel
theorem d_Law_law_401 : decode jM_Law_law.2.1 401 = .ok (.iconst 1, 1) := by decide +kernel
theorem d_Law_law_402 : decode jM_Law_law.2.1 402 = .ok (.iadd, 1) := by decide +kernel
theorem d_Law_law_403 : decode jM_Law_law.2.1 403 = .ok (.iaload, 1) := by decide +kernel
theorem d_Law_law_404 : decode jM_Law_law.2.1 404 = .ok (.i2l, 1) := by decide +kernel
theorem d_Law_law_405 : decode jM_Law_law.2.1 405 = .ok (.bipush 32, 2) := by decide +kernel
theorem d_Law_law_407 : decode jM_Law_law.2.1 407 = .ok (.lshl, 1) := by decide +kernel
theorem d_Law_law_408 : decode jM_Law_law.2.1 408 = .ok (.aload_n 0, 1) := by decide +kernel
theorem d_Law_law_409 : decode jM_Law_law.2.1 409 = .ok (.iload_n 3, 1) := by decide +kernel
theorem d_Law_law_410 : decode jM_Law_law.2.1 410 = .ok (.iconst 2, 1) := by decide +kernel
theorem d_Law_law_411 : decode jM_Law_law.2.1 411 = .ok (.iadd, 1) := by decide +kernel
theorem d_Law_law_412 : decode jM_Law_law.2.1 412 = .ok (.iaload, 1) := by decide +kernel
theorem d_Law_law_413 : decode jM_Law_law.2.1 413 = .ok (.i2l, 1) := by decide +kernel
theorem d_Law_law_414 : decode jM_Law_law.2.1 414 = .ok (.ldc2_w 13, 3) := by decide +kernel
theorem d_Law_law_417 : decode jM_Law_law.2.1 417 = .ok (.land, 1) := by decide +kernel
theorem d_Law_law_418 : decode jM_Law_law.2.1 418 = .ok (.lor, 1) := by decide +kernel
theorem d_Law_law_419 : decode jM_Law_law.2.1 419 = .ok (.invokevirtual 44, 3) := by decide +kernel
theorem d_Law_law_422 : decode jM_Law_law.2.1 422 = .ok (.aload_n 2, 1) := by decide +kernel
theorem d_Law_law_423 : decode jM_Law_law.2.1 423 = .ok (.aload_n 0, 1) := by decide +kernel
theorem d_Law_law_424 : decode jM_Law_law.2.1 424 = .ok (.iload_n 3, 1) := by decide +kernel
theorem d_Law_law_425 : decode jM_Law_law.2.1 425 = .ok (.iconst 1, 1) := by decide +kernel
theorem d_Law_law_426 : decode jM_Law_law.2.1 426 = .ok (.iadd, 1) := by decide +kernel
theorem d_Law_law_427 : decode jM_Law_law.2.1 427 = .ok (.iaload, 1) := by decide +kernel
theorem d_Law_law_428 : decode jM_Law_law.2.1 428 = .ok (.i2l, 1) := by decide +kernel
theorem d_Law_law_429 : decode jM_Law_law.2.1 429 = .ok (.bipush 32, 2) := by decide +kernel
theorem d_Law_law_431 : decode jM_Law_law.2.1 431 = .ok (.lshl, 1) := by decide +kernel
theorem d_Law_law_432 : decode jM_Law_law.2.1 432 = .ok (.aload_n 0, 1) := by decide +kernel
theorem d_Law_law_433 : decode jM_Law_law.2.1 433 = .ok (.iload_n 3, 1) := by decide +kernel
theorem d_Law_law_434 : decode jM_Law_law.2.1 434 = .ok (.iconst 2, 1) := by decide +kernel
theorem d_Law_law_435 : decode jM_Law_law.2.1 435 = .ok (.iadd, 1) := by decide +kernel
theorem d_Law_law_436 : decode jM_Law_law.2.1 436 = .ok (.iaload, 1) := by decide +kernel
theorem d_Law_law_437 : decode jM_Law_law.2.1 437 = .ok (.i2l, 1) := by decide +kernel
theorem d_Law_law_438 : decode jM_Law_law.2.1 438 = .ok (.ldc2_w 13, 3) := by decide +kernel
theorem d_Law_law_441 : decode jM_Law_law.2.1 441 = .ok (.land, 1) := by decide +kernel
theorem d_Law_law_442 : decode jM_Law_law.2.1 442 = .ok (.lor, 1) := by decide +kernel
theorem d_Law_law_443 : decode jM_Law_law.2.1 443 = .ok (.invokevirtual 48, 3) := by decide +kernel
theorem d_Law_law_446 : decode jM_Law_law.2.1 446 = .ok (.if_icmp .eq 282, 3) := by decide +kernel
theorem d_Law_law_449 : decode jM_Law_law.2.1 449 = .ok (.iconst 0, 1) := by decide +kernel
theorem d_Law_law_450 : decode jM_Law_law.2.1 450 = .ok (.ireturn, 1) := by decide +kernel
theorem d_Law_law_451 : decode jM_Law_law.2.1 451 = .ok (.aload_n 1, 1) := by decide +kernel
theorem d_Law_law_452 : decode jM_Law_law.2.1 452 = .ok (.aload_n 0, 1) := by decide +kernel
theorem d_Law_law_453 : decode jM_Law_law.2.1 453 = .ok (.iload_n 3, 1) := by decide +kernel
theorem d_Law_law_454 : decode jM_Law_law.2.1 454 = .ok (.iconst 1, 1) := by decide +kernel
theorem d_Law_law_455 : decode jM_Law_law.2.1 455 = .ok (.iadd, 1) := by decide +kernel
theorem d_Law_law_456 : decode jM_Law_law.2.1 456 = .ok (.iaload, 1) := by decide +kernel
theorem d_Law_law_457 : decode jM_Law_law.2.1 457 = .ok (.invokevirtual 49, 3) := by decide +kernel
theorem d_Law_law_460 : decode jM_Law_law.2.1 460 = .ok (.aload_n 2, 1) := by decide +kernel
theorem d_Law_law_461 : decode jM_Law_law.2.1 461 = .ok (.aload_n 0, 1) := by decide +kernel
theorem d_Law_law_462 : decode jM_Law_law.2.1 462 = .ok (.iload_n 3, 1) := by decide +kernel
theorem d_Law_law_463 : decode jM_Law_law.2.1 463 = .ok (.iconst 1, 1) := by decide +kernel
theorem d_Law_law_464 : decode jM_Law_law.2.1 464 = .ok (.iadd, 1) := by decide +kernel
theorem d_Law_law_465 : decode jM_Law_law.2.1 465 = .ok (.iaload, 1) := by decide +kernel
theorem d_Law_law_466 : decode jM_Law_law.2.1 466 = .ok (.invokevirtual 52, 3) := by decide +kernel
theorem d_Law_law_469 : decode jM_Law_law.2.1 469 = .ok (.if_icmp .eq 259, 3) := by decide +kernel
theorem d_Law_law_472 : decode jM_Law_law.2.1 472 = .ok (.iconst 0, 1) := by decide +kernel
theorem d_Law_law_473 : decode jM_Law_law.2.1 473 = .ok (.ireturn, 1) := by decide +kernel
theorem d_Law_law_474 : decode jM_Law_law.2.1 474 = .ok (.aload_n 1, 1) := by decide +kernel
theorem d_Law_law_475 : decode jM_Law_law.2.1 475 = .ok (.invokevirtual 53, 3) := by decide +kernel
theorem d_Law_law_478 : decode jM_Law_law.2.1 478 = .ok (.aload_n 2, 1) := by decide +kernel
theorem d_Law_law_479 : decode jM_Law_law.2.1 479 = .ok (.invokevirtual 57, 3) := by decide +kernel
theorem d_Law_law_482 : decode jM_Law_law.2.1 482 = .ok (.if_icmp .eq 246, 3) := by decide +kernel
theorem d_Law_law_485 : decode jM_Law_law.2.1 485 = .ok (.iconst 0, 1) := by decide +kernel
theorem d_Law_law_486 : decode jM_Law_law.2.1 486 = .ok (.ireturn, 1) := by decide +kernel
theorem d_Law_law_487 : decode jM_Law_law.2.1 487 = .ok (.aload_n 1, 1) := by decide +kernel
theorem d_Law_law_488 : decode jM_Law_law.2.1 488 = .ok (.aload_n 0, 1) := by decide +kernel
theorem d_Law_law_489 : decode jM_Law_law.2.1 489 = .ok (.iload_n 3, 1) := by decide +kernel
theorem d_Law_law_490 : decode jM_Law_law.2.1 490 = .ok (.iconst 1, 1) := by decide +kernel
theorem d_Law_law_491 : decode jM_Law_law.2.1 491 = .ok (.iadd, 1) := by decide +kernel
theorem d_Law_law_492 : decode jM_Law_law.2.1 492 = .ok (.iaload, 1) := by decide +kernel
theorem d_Law_law_493 : decode jM_Law_law.2.1 493 = .ok (.invokevirtual 58, 3) := by decide +kernel
theorem d_Law_law_496 : decode jM_Law_law.2.1 496 = .ok (.aload_n 2, 1) := by decide +kernel
theorem d_Law_law_497 : decode jM_Law_law.2.1 497 = .ok (.aload_n 0, 1) := by decide +kernel
theorem d_Law_law_498 : decode jM_Law_law.2.1 498 = .ok (.iload_n 3, 1) := by decide +kernel
theorem d_Law_law_499 : decode jM_Law_law.2.1 499 = .ok (.iconst 1, 1) := by decide +kernel
theorem d_Law_law_500 : decode jM_Law_law.2.1 500 = .ok (.iadd, 1) := by decide +kernel
theorem d_Law_law_501 : decode jM_Law_law.2.1 501 = .ok (.iaload, 1) := by decide +kernel
theorem d_Law_law_502 : decode jM_Law_law.2.1 502 = .ok (.invokevirtual 61, 3) := by decide +kernel
theorem d_Law_law_505 : decode jM_Law_law.2.1 505 = .ok (.if_icmp .eq 223, 3) := by decide +kernel
theorem d_Law_law_508 : decode jM_Law_law.2.1 508 = .ok (.iconst 0, 1) := by decide +kernel
theorem d_Law_law_509 : decode jM_Law_law.2.1 509 = .ok (.ireturn, 1) := by decide +kernel
theorem d_Law_law_510 : decode jM_Law_law.2.1 510 = .ok (.aload_n 1, 1) := by decide +kernel
theorem d_Law_law_511 : decode jM_Law_law.2.1 511 = .ok (.aload_n 0, 1) := by decide +kernel
theorem d_Law_law_512 : decode jM_Law_law.2.1 512 = .ok (.iload_n 3, 1) := by decide +kernel
theorem d_Law_law_513 : decode jM_Law_law.2.1 513 = .ok (.iconst 1, 1) := by decide +kernel
theorem d_Law_law_514 : decode jM_Law_law.2.1 514 = .ok (.iadd, 1) := by decide +kernel
theorem d_Law_law_515 : decode jM_Law_law.2.1 515 = .ok (.iaload, 1) := by decide +kernel
theorem d_Law_law_516 : decode jM_Law_law.2.1 516 = .ok (.invokevirtual 62, 3) := by decide +kernel
theorem d_Law_law_519 : decode jM_Law_law.2.1 519 = .ok (.aload_n 2, 1) := by decide +kernel
theorem d_Law_law_520 : decode jM_Law_law.2.1 520 = .ok (.aload_n 0, 1) := by decide +kernel
theorem d_Law_law_521 : decode jM_Law_law.2.1 521 = .ok (.iload_n 3, 1) := by decide +kernel
theorem d_Law_law_522 : decode jM_Law_law.2.1 522 = .ok (.iconst 1, 1) := by decide +kernel
theorem d_Law_law_523 : decode jM_Law_law.2.1 523 = .ok (.iadd, 1) := by decide +kernel
theorem d_Law_law_524 : decode jM_Law_law.2.1 524 = .ok (.iaload, 1) := by decide +kernel
theorem d_Law_law_525 : decode jM_Law_law.2.1 525 = .ok (.invokevirtual 65, 3) := by decide +kernel
theorem d_Law_law_528 : decode jM_Law_law.2.1 528 = .ok (.if_icmp .eq 200, 3) := by decide +kernel
theorem d_Law_law_531 : decode jM_Law_law.2.1 531 = .ok (.iconst 0, 1) := by decide +kernel
theorem d_Law_law_532 : decode jM_Law_law.2.1 532 = .ok (.ireturn, 1) := by decide +kernel
theorem d_Law_law_533 : decode jM_Law_law.2.1 533 = .ok (.aload_n 1, 1) := by decide +kernel
theorem d_Law_law_534 : decode jM_Law_law.2.1 534 = .ok (.aload_n 0, 1) := by decide +kernel
theorem d_Law_law_535 : decode jM_Law_law.2.1 535 = .ok (.iload_n 3, 1) := by decide +kernel
theorem d_Law_law_536 : decode jM_Law_law.2.1 536 = .ok (.iconst 1, 1) := by decide +kernel
theorem d_Law_law_537 : decode jM_Law_law.2.1 537 = .ok (.iadd, 1) := by decide +kernel
theorem d_Law_law_538 : decode jM_Law_law.2.1 538 = .ok (.iaload, 1) := by decide +kernel
theorem d_Law_law_539 : decode jM_Law_law.2.1 539 = .ok (.aload_n 0, 1) := by decide +kernel
theorem d_Law_law_540 : decode jM_Law_law.2.1 540 = .ok (.iload_n 3, 1) := by decide +kernel
theorem d_Law_law_541 : decode jM_Law_law.2.1 541 = .ok (.iconst 2, 1) := by decide +kernel
theorem d_Law_law_542 : decode jM_Law_law.2.1 542 = .ok (.iadd, 1) := by decide +kernel
theorem d_Law_law_543 : decode jM_Law_law.2.1 543 = .ok (.iaload, 1) := by decide +kernel
theorem d_Law_law_544 : decode jM_Law_law.2.1 544 = .ok (.aload_n 0, 1) := by decide +kernel
theorem d_Law_law_545 : decode jM_Law_law.2.1 545 = .ok (.iload_n 3, 1) := by decide +kernel
theorem d_Law_law_546 : decode jM_Law_law.2.1 546 = .ok (.iconst 3, 1) := by decide +kernel
theorem d_Law_law_547 : decode jM_Law_law.2.1 547 = .ok (.iadd, 1) := by decide +kernel
theorem d_Law_law_548 : decode jM_Law_law.2.1 548 = .ok (.iaload, 1) := by decide +kernel
theorem d_Law_law_549 : decode jM_Law_law.2.1 549 = .ok (.invokevirtual 66, 3) := by decide +kernel
theorem d_Law_law_552 : decode jM_Law_law.2.1 552 = .ok (.aload_n 2, 1) := by decide +kernel
theorem d_Law_law_553 : decode jM_Law_law.2.1 553 = .ok (.aload_n 0, 1) := by decide +kernel
theorem d_Law_law_554 : decode jM_Law_law.2.1 554 = .ok (.iload_n 3, 1) := by decide +kernel
theorem d_Law_law_555 : decode jM_Law_law.2.1 555 = .ok (.iconst 1, 1) := by decide +kernel
theorem d_Law_law_556 : decode jM_Law_law.2.1 556 = .ok (.iadd, 1) := by decide +kernel
theorem d_Law_law_557 : decode jM_Law_law.2.1 557 = .ok (.iaload, 1) := by decide +kernel
theorem d_Law_law_558 : decode jM_Law_law.2.1 558 = .ok (.aload_n 0, 1) := by decide +kernel
theorem d_Law_law_559 : decode jM_Law_law.2.1 559 = .ok (.iload_n 3, 1) := by decide +kernel
theorem d_Law_law_560 : decode jM_Law_law.2.1 560 = .ok (.iconst 2, 1) := by decide +kernel
theorem d_Law_law_561 : decode jM_Law_law.2.1 561 = .ok (.iadd, 1) := by decide +kernel
theorem d_Law_law_562 : decode jM_Law_law.2.1 562 = .ok (.iaload, 1) := by decide +kernel
theorem d_Law_law_563 : decode jM_Law_law.2.1 563 = .ok (.aload_n 0, 1) := by decide +kernel
theorem d_Law_law_564 : decode jM_Law_law.2.1 564 = .ok (.iload_n 3, 1) := by decide +kernel
theorem d_Law_law_565 : decode jM_Law_law.2.1 565 = .ok (.iconst 3, 1) := by decide +kernel
theorem d_Law_law_566 : decode jM_Law_law.2.1 566 = .ok (.iadd, 1) := by decide +kernel
theorem d_Law_law_567 : decode jM_Law_law.2.1 567 = .ok (.iaload, 1) := by decide +kernel
theorem d_Law_law_568 : decode jM_Law_law.2.1 568 = .ok (.invokevirtual 70, 3) := by decide +kernel
theorem d_Law_law_571 : decode jM_Law_law.2.1 571 = .ok (.if_icmp .eq 157, 3) := by decide +kernel
theorem d_Law_law_574 : decode jM_Law_law.2.1 574 = .ok (.iconst 0, 1) := by decide +kernel
theorem d_Law_law_575 : decode jM_Law_law.2.1 575 = .ok (.ireturn, 1) := by decide +kernel
theorem d_Law_law_576 : decode jM_Law_law.2.1 576 = .ok (.aload_n 1, 1) := by decide +kernel
theorem d_Law_law_577 : decode jM_Law_law.2.1 577 = .ok (.aload_n 0, 1) := by decide +kernel
theorem d_Law_law_578 : decode jM_Law_law.2.1 578 = .ok (.iload_n 3, 1) := by decide +kernel
theorem d_Law_law_579 : decode jM_Law_law.2.1 579 = .ok (.iconst 1, 1) := by decide +kernel
theorem d_Law_law_580 : decode jM_Law_law.2.1 580 = .ok (.iadd, 1) := by decide +kernel
theorem d_Law_law_581 : decode jM_Law_law.2.1 581 = .ok (.iaload, 1) := by decide +kernel
theorem d_Law_law_582 : decode jM_Law_law.2.1 582 = .ok (.invokevirtual 71, 3) := by decide +kernel
theorem d_Law_law_585 : decode jM_Law_law.2.1 585 = .ok (.aload_n 2, 1) := by decide +kernel
theorem d_Law_law_586 : decode jM_Law_law.2.1 586 = .ok (.aload_n 0, 1) := by decide +kernel
theorem d_Law_law_587 : decode jM_Law_law.2.1 587 = .ok (.iload_n 3, 1) := by decide +kernel
theorem d_Law_law_588 : decode jM_Law_law.2.1 588 = .ok (.iconst 1, 1) := by decide +kernel
theorem d_Law_law_589 : decode jM_Law_law.2.1 589 = .ok (.iadd, 1) := by decide +kernel
theorem d_Law_law_590 : decode jM_Law_law.2.1 590 = .ok (.iaload, 1) := by decide +kernel
theorem d_Law_law_591 : decode jM_Law_law.2.1 591 = .ok (.invokevirtual 75, 3) := by decide +kernel
theorem d_Law_law_594 : decode jM_Law_law.2.1 594 = .ok (.lcmp, 1) := by decide +kernel
theorem d_Law_law_595 : decode jM_Law_law.2.1 595 = .ok (.ifCond .eq 133, 3) := by decide +kernel
theorem d_Law_law_598 : decode jM_Law_law.2.1 598 = .ok (.iconst 0, 1) := by decide +kernel
theorem d_Law_law_599 : decode jM_Law_law.2.1 599 = .ok (.ireturn, 1) := by decide +kernel
theorem d_Law_law_600 : decode jM_Law_law.2.1 600 = .ok (.aload_n 1, 1) := by decide +kernel
theorem d_Law_law_601 : decode jM_Law_law.2.1 601 = .ok (.aload_n 0, 1) := by decide +kernel
theorem d_Law_law_602 : decode jM_Law_law.2.1 602 = .ok (.iload_n 3, 1) := by decide +kernel
theorem d_Law_law_603 : decode jM_Law_law.2.1 603 = .ok (.iconst 1, 1) := by decide +kernel
theorem d_Law_law_604 : decode jM_Law_law.2.1 604 = .ok (.iadd, 1) := by decide +kernel
theorem d_Law_law_605 : decode jM_Law_law.2.1 605 = .ok (.iaload, 1) := by decide +kernel
theorem d_Law_law_606 : decode jM_Law_law.2.1 606 = .ok (.invokevirtual 76, 3) := by decide +kernel
theorem d_Law_law_609 : decode jM_Law_law.2.1 609 = .ok (.aload_n 2, 1) := by decide +kernel
theorem d_Law_law_610 : decode jM_Law_law.2.1 610 = .ok (.aload_n 0, 1) := by decide +kernel
theorem d_Law_law_611 : decode jM_Law_law.2.1 611 = .ok (.iload_n 3, 1) := by decide +kernel
theorem d_Law_law_612 : decode jM_Law_law.2.1 612 = .ok (.iconst 1, 1) := by decide +kernel
theorem d_Law_law_613 : decode jM_Law_law.2.1 613 = .ok (.iadd, 1) := by decide +kernel
theorem d_Law_law_614 : decode jM_Law_law.2.1 614 = .ok (.iaload, 1) := by decide +kernel
theorem d_Law_law_615 : decode jM_Law_law.2.1 615 = .ok (.invokevirtual 79, 3) := by decide +kernel
theorem d_Law_law_618 : decode jM_Law_law.2.1 618 = .ok (.if_icmp .eq 110, 3) := by decide +kernel
theorem d_Law_law_621 : decode jM_Law_law.2.1 621 = .ok (.iconst 0, 1) := by decide +kernel
theorem d_Law_law_622 : decode jM_Law_law.2.1 622 = .ok (.ireturn, 1) := by decide +kernel
theorem d_Law_law_623 : decode jM_Law_law.2.1 623 = .ok (.aload_n 1, 1) := by decide +kernel
theorem d_Law_law_624 : decode jM_Law_law.2.1 624 = .ok (.aload_n 0, 1) := by decide +kernel
theorem d_Law_law_625 : decode jM_Law_law.2.1 625 = .ok (.iload_n 3, 1) := by decide +kernel
theorem d_Law_law_626 : decode jM_Law_law.2.1 626 = .ok (.iconst 1, 1) := by decide +kernel
theorem d_Law_law_627 : decode jM_Law_law.2.1 627 = .ok (.iadd, 1) := by decide +kernel
theorem d_Law_law_628 : decode jM_Law_law.2.1 628 = .ok (.iaload, 1) := by decide +kernel
theorem d_Law_law_629 : decode jM_Law_law.2.1 629 = .ok (.invokevirtual 80, 3) := by decide +kernel
theorem d_Law_law_632 : decode jM_Law_law.2.1 632 = .ok (.aload_n 2, 1) := by decide +kernel
theorem d_Law_law_633 : decode jM_Law_law.2.1 633 = .ok (.aload_n 0, 1) := by decide +kernel
theorem d_Law_law_634 : decode jM_Law_law.2.1 634 = .ok (.iload_n 3, 1) := by decide +kernel
theorem d_Law_law_635 : decode jM_Law_law.2.1 635 = .ok (.iconst 1, 1) := by decide +kernel
theorem d_Law_law_636 : decode jM_Law_law.2.1 636 = .ok (.iadd, 1) := by decide +kernel
theorem d_Law_law_637 : decode jM_Law_law.2.1 637 = .ok (.iaload, 1) := by decide +kernel
theorem d_Law_law_638 : decode jM_Law_law.2.1 638 = .ok (.invokevirtual 83, 3) := by decide +kernel
theorem d_Law_law_641 : decode jM_Law_law.2.1 641 = .ok (.if_icmp .eq 87, 3) := by decide +kernel
theorem d_Law_law_644 : decode jM_Law_law.2.1 644 = .ok (.iconst 0, 1) := by decide +kernel
theorem d_Law_law_645 : decode jM_Law_law.2.1 645 = .ok (.ireturn, 1) := by decide +kernel
theorem d_Law_law_646 : decode jM_Law_law.2.1 646 = .ok (.aload_n 1, 1) := by decide +kernel
theorem d_Law_law_647 : decode jM_Law_law.2.1 647 = .ok (.aload_n 0, 1) := by decide +kernel
theorem d_Law_law_648 : decode jM_Law_law.2.1 648 = .ok (.iload_n 3, 1) := by decide +kernel
theorem d_Law_law_649 : decode jM_Law_law.2.1 649 = .ok (.iconst 1, 1) := by decide +kernel
theorem d_Law_law_650 : decode jM_Law_law.2.1 650 = .ok (.iadd, 1) := by decide +kernel
theorem d_Law_law_651 : decode jM_Law_law.2.1 651 = .ok (.iaload, 1) := by decide +kernel
theorem d_Law_law_652 : decode jM_Law_law.2.1 652 = .ok (.aload_n 0, 1) := by decide +kernel
theorem d_Law_law_653 : decode jM_Law_law.2.1 653 = .ok (.iload_n 3, 1) := by decide +kernel
theorem d_Law_law_654 : decode jM_Law_law.2.1 654 = .ok (.iconst 2, 1) := by decide +kernel
theorem d_Law_law_655 : decode jM_Law_law.2.1 655 = .ok (.iadd, 1) := by decide +kernel
theorem d_Law_law_656 : decode jM_Law_law.2.1 656 = .ok (.iaload, 1) := by decide +kernel
theorem d_Law_law_657 : decode jM_Law_law.2.1 657 = .ok (.invokevirtual 84, 3) := by decide +kernel
theorem d_Law_law_660 : decode jM_Law_law.2.1 660 = .ok (.aload_n 2, 1) := by decide +kernel
theorem d_Law_law_661 : decode jM_Law_law.2.1 661 = .ok (.aload_n 0, 1) := by decide +kernel
theorem d_Law_law_662 : decode jM_Law_law.2.1 662 = .ok (.iload_n 3, 1) := by decide +kernel
theorem d_Law_law_663 : decode jM_Law_law.2.1 663 = .ok (.iconst 1, 1) := by decide +kernel
theorem d_Law_law_664 : decode jM_Law_law.2.1 664 = .ok (.iadd, 1) := by decide +kernel
theorem d_Law_law_665 : decode jM_Law_law.2.1 665 = .ok (.iaload, 1) := by decide +kernel
theorem d_Law_law_666 : decode jM_Law_law.2.1 666 = .ok (.aload_n 0, 1) := by decide +kernel
theorem d_Law_law_667 : decode jM_Law_law.2.1 667 = .ok (.iload_n 3, 1) := by decide +kernel
theorem d_Law_law_668 : decode jM_Law_law.2.1 668 = .ok (.iconst 2, 1) := by decide +kernel
theorem d_Law_law_669 : decode jM_Law_law.2.1 669 = .ok (.iadd, 1) := by decide +kernel
theorem d_Law_law_670 : decode jM_Law_law.2.1 670 = .ok (.iaload, 1) := by decide +kernel
theorem d_Law_law_671 : decode jM_Law_law.2.1 671 = .ok (.invokevirtual 87, 3) := by decide +kernel
theorem d_Law_law_674 : decode jM_Law_law.2.1 674 = .ok (.if_icmp .eq 54, 3) := by decide +kernel
theorem d_Law_law_677 : decode jM_Law_law.2.1 677 = .ok (.iconst 0, 1) := by decide +kernel
theorem d_Law_law_678 : decode jM_Law_law.2.1 678 = .ok (.ireturn, 1) := by decide +kernel
theorem d_Law_law_679 : decode jM_Law_law.2.1 679 = .ok (.aload_n 1, 1) := by decide +kernel
theorem d_Law_law_680 : decode jM_Law_law.2.1 680 = .ok (.aload_n 0, 1) := by decide +kernel
theorem d_Law_law_681 : decode jM_Law_law.2.1 681 = .ok (.iload_n 3, 1) := by decide +kernel
theorem d_Law_law_682 : decode jM_Law_law.2.1 682 = .ok (.iconst 1, 1) := by decide +kernel
theorem d_Law_law_683 : decode jM_Law_law.2.1 683 = .ok (.iadd, 1) := by decide +kernel
theorem d_Law_law_684 : decode jM_Law_law.2.1 684 = .ok (.iaload, 1) := by decide +kernel
theorem d_Law_law_685 : decode jM_Law_law.2.1 685 = .ok (.invokevirtual 88, 3) := by decide +kernel
theorem d_Law_law_688 : decode jM_Law_law.2.1 688 = .ok (.aload_n 2, 1) := by decide +kernel
theorem d_Law_law_689 : decode jM_Law_law.2.1 689 = .ok (.aload_n 0, 1) := by decide +kernel
theorem d_Law_law_690 : decode jM_Law_law.2.1 690 = .ok (.iload_n 3, 1) := by decide +kernel
theorem d_Law_law_691 : decode jM_Law_law.2.1 691 = .ok (.iconst 1, 1) := by decide +kernel
theorem d_Law_law_692 : decode jM_Law_law.2.1 692 = .ok (.iadd, 1) := by decide +kernel
theorem d_Law_law_693 : decode jM_Law_law.2.1 693 = .ok (.iaload, 1) := by decide +kernel
theorem d_Law_law_694 : decode jM_Law_law.2.1 694 = .ok (.invokevirtual 91, 3) := by decide +kernel
theorem d_Law_law_697 : decode jM_Law_law.2.1 697 = .ok (.if_icmp .eq 31, 3) := by decide +kernel
theorem d_Law_law_700 : decode jM_Law_law.2.1 700 = .ok (.iconst 0, 1) := by decide +kernel
theorem d_Law_law_701 : decode jM_Law_law.2.1 701 = .ok (.ireturn, 1) := by decide +kernel
theorem d_Law_law_702 : decode jM_Law_law.2.1 702 = .ok (.aload_n 1, 1) := by decide +kernel
theorem d_Law_law_703 : decode jM_Law_law.2.1 703 = .ok (.invokevirtual 92, 3) := by decide +kernel
theorem d_Law_law_706 : decode jM_Law_law.2.1 706 = .ok (.aload_n 2, 1) := by decide +kernel
theorem d_Law_law_707 : decode jM_Law_law.2.1 707 = .ok (.invokevirtual 96, 3) := by decide +kernel
theorem d_Law_law_710 : decode jM_Law_law.2.1 710 = .ok (.if_icmp .eq 18, 3) := by decide +kernel
theorem d_Law_law_713 : decode jM_Law_law.2.1 713 = .ok (.iconst 0, 1) := by decide +kernel
theorem d_Law_law_714 : decode jM_Law_law.2.1 714 = .ok (.ireturn, 1) := by decide +kernel
theorem d_Law_law_715 : decode jM_Law_law.2.1 715 = .ok (.aload_n 1, 1) := by decide +kernel
theorem d_Law_law_716 : decode jM_Law_law.2.1 716 = .ok (.invokevirtual 97, 3) := by decide +kernel
theorem d_Law_law_719 : decode jM_Law_law.2.1 719 = .ok (.aload_n 2, 1) := by decide +kernel
theorem d_Law_law_720 : decode jM_Law_law.2.1 720 = .ok (.invokevirtual 100, 3) := by decide +kernel
theorem d_Law_law_723 : decode jM_Law_law.2.1 723 = .ok (.if_icmp .eq 5, 3) := by decide +kernel
theorem d_Law_law_726 : decode jM_Law_law.2.1 726 = .ok (.iconst 0, 1) := by decide +kernel
theorem d_Law_law_727 : decode jM_Law_law.2.1 727 = .ok (.ireturn, 1) := by decide +kernel
theorem d_Law_law_728 : decode jM_Law_law.2.1 728 = .ok (.iinc 3 6, 3) := by decide +kernel
theorem d_Law_law_731 : decode jM_Law_law.2.1 731 = .ok (.goto (-713), 3) := by decide +kernel
theorem d_Law_law_734 : decode jM_Law_law.2.1 734 = .ok (.iconst 1, 1) := by decide +kernel
theorem d_Law_law_735 : decode jM_Law_law.2.1 735 = .ok (.ireturn, 1) := by decide +kernel
