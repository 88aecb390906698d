theorem d_ln_cell_0 : decode b_ln_cell 0 = .ok (.iload_n 1, 1) := by decide +kernel
theorem d_ln_cell_1 : decode b_ln_cell 1 = .ok (.aload_n 0, 1) := by decide +kernel
theorem d_ln_cell_2 : decode b_ln_cell 2 = .ok (.arraylength, 1) := by decide +kernel
theorem d_ln_cell_3 : decode b_ln_cell 3 = .ok (.if_icmp .ge 9, 3) := by decide +kernel
theorem d_ln_cell_6 : decode b_ln_cell 6 = .ok (.aload_n 0, 1) := by decide +kernel
theorem d_ln_cell_7 : decode b_ln_cell 7 = .ok (.iload_n 1, 1) := by decide +kernel
theorem d_ln_cell_8 : decode b_ln_cell 8 = .ok (.iaload, 1) := by decide +kernel
theorem d_ln_cell_9 : decode b_ln_cell 9 = .ok (.goto 4, 3) := by decide +kernel
theorem d_ln_cell_12 : decode b_ln_cell 12 = .ok (.iconst 0, 1) := by decide +kernel
theorem d_ln_cell_13 : decode b_ln_cell 13 = .ok (.ireturn, 1) := by decide +kernel
theorem d_ln_law_0 : decode code 0 = .ok (.new 7, 3) := by decide +kernel
theorem d_ln_law_3 : decode code 3 = .ok (.dup, 1) := by decide +kernel
theorem d_ln_law_4 : decode code 4 = .ok (.aload_n 0, 1) := by decide +kernel
theorem d_ln_law_5 : decode code 5 = .ok (.iconst 0, 1) := by decide +kernel
theorem d_ln_law_6 : decode code 6 = .ok (.invokestatic 9, 3) := by decide +kernel
theorem d_ln_law_9 : decode code 9 = .ok (.invokespecial 15, 3) := by decide +kernel
theorem d_ln_law_12 : decode code 12 = .ok (.astore_n 1, 1) := by decide +kernel
theorem d_ln_law_13 : decode code 13 = .ok (.new 18, 3) := by decide +kernel
theorem d_ln_law_16 : decode code 16 = .ok (.dup, 1) := by decide +kernel
theorem d_ln_law_17 : decode code 17 = .ok (.aload_n 0, 1) := by decide +kernel
theorem d_ln_law_18 : decode code 18 = .ok (.iconst 0, 1) := by decide +kernel
theorem d_ln_law_19 : decode code 19 = .ok (.invokestatic 9, 3) := by decide +kernel
theorem d_ln_law_22 : decode code 22 = .ok (.invokespecial 20, 3) := by decide +kernel
theorem d_ln_law_25 : decode code 25 = .ok (.astore_n 2, 1) := by decide +kernel
theorem d_ln_law_26 : decode code 26 = .ok (.iconst 1, 1) := by decide +kernel
theorem d_ln_law_27 : decode code 27 = .ok (.istore_n 3, 1) := by decide +kernel
theorem d_ln_law_28 : decode code 28 = .ok (.iload_n 3, 1) := by decide +kernel
theorem d_ln_law_29 : decode code 29 = .ok (.aload_n 0, 1) := by decide +kernel
theorem d_ln_law_30 : decode code 30 = .ok (.arraylength, 1) := by decide +kernel
theorem d_ln_law_31 : decode code 31 = .ok (.iconst 4, 1) := by decide +kernel
theorem d_ln_law_32 : decode code 32 = .ok (.isub, 1) := by decide +kernel
theorem d_ln_law_33 : decode code 33 = .ok (.if_icmp .gt 563, 3) := by decide +kernel
theorem d_ln_law_36 : decode code 36 = .ok (.aload_n 0, 1) := by decide +kernel
theorem d_ln_law_37 : decode code 37 = .ok (.iload_n 3, 1) := by decide +kernel
theorem d_ln_law_38 : decode code 38 = .ok (.iaload, 1) := by decide +kernel
theorem d_ln_law_39 : decode code 39 = .ok (.bipush 31, 2) := by decide +kernel
theorem d_ln_law_41 : decode code 41 = .ok (.iand, 1) := by decide +kernel
theorem d_ln_law_42 : decode code 42 = .ok (.tableswitch 548 0 17 #[86, 129, 162, 175, 198, 221, 254, 265, 298, 321, 344, 377, 400, 433, 456, 479, 512, 535], 86) := by decide +kernel
theorem d_ln_law_128 : decode code 128 = .ok (.aload_n 1, 1) := by decide +kernel
theorem d_ln_law_129 : decode code 129 = .ok (.aload_n 0, 1) := by decide +kernel
theorem d_ln_law_130 : decode code 130 = .ok (.iload_n 3, 1) := by decide +kernel
theorem d_ln_law_131 : decode code 131 = .ok (.iconst 1, 1) := by decide +kernel
theorem d_ln_law_132 : decode code 132 = .ok (.iadd, 1) := by decide +kernel
theorem d_ln_law_133 : decode code 133 = .ok (.iaload, 1) := by decide +kernel
theorem d_ln_law_134 : decode code 134 = .ok (.aload_n 0, 1) := by decide +kernel
theorem d_ln_law_135 : decode code 135 = .ok (.iload_n 3, 1) := by decide +kernel
theorem d_ln_law_136 : decode code 136 = .ok (.iconst 2, 1) := by decide +kernel
theorem d_ln_law_137 : decode code 137 = .ok (.iadd, 1) := by decide +kernel
theorem d_ln_law_138 : decode code 138 = .ok (.iaload, 1) := by decide +kernel
theorem d_ln_law_139 : decode code 139 = .ok (.aload_n 0, 1) := by decide +kernel
theorem d_ln_law_140 : decode code 140 = .ok (.iload_n 3, 1) := by decide +kernel
theorem d_ln_law_141 : decode code 141 = .ok (.iconst 3, 1) := by decide +kernel
theorem d_ln_law_142 : decode code 142 = .ok (.iadd, 1) := by decide +kernel
theorem d_ln_law_143 : decode code 143 = .ok (.iaload, 1) := by decide +kernel
theorem d_ln_law_144 : decode code 144 = .ok (.invokevirtual 21, 3) := by decide +kernel
theorem d_ln_law_147 : decode code 147 = .ok (.aload_n 2, 1) := by decide +kernel
theorem d_ln_law_148 : decode code 148 = .ok (.aload_n 0, 1) := by decide +kernel
theorem d_ln_law_149 : decode code 149 = .ok (.iload_n 3, 1) := by decide +kernel
theorem d_ln_law_150 : decode code 150 = .ok (.iconst 1, 1) := by decide +kernel
theorem d_ln_law_151 : decode code 151 = .ok (.iadd, 1) := by decide +kernel
theorem d_ln_law_152 : decode code 152 = .ok (.iaload, 1) := by decide +kernel
theorem d_ln_law_153 : decode code 153 = .ok (.aload_n 0, 1) := by decide +kernel
theorem d_ln_law_154 : decode code 154 = .ok (.iload_n 3, 1) := by decide +kernel
theorem d_ln_law_155 : decode code 155 = .ok (.iconst 2, 1) := by decide +kernel
theorem d_ln_law_156 : decode code 156 = .ok (.iadd, 1) := by decide +kernel
theorem d_ln_law_157 : decode code 157 = .ok (.iaload, 1) := by decide +kernel
theorem d_ln_law_158 : decode code 158 = .ok (.aload_n 0, 1) := by decide +kernel
theorem d_ln_law_159 : decode code 159 = .ok (.iload_n 3, 1) := by decide +kernel
theorem d_ln_law_160 : decode code 160 = .ok (.iconst 3, 1) := by decide +kernel
theorem d_ln_law_161 : decode code 161 = .ok (.iadd, 1) := by decide +kernel
theorem d_ln_law_162 : decode code 162 = .ok (.iaload, 1) := by decide +kernel
theorem d_ln_law_163 : decode code 163 = .ok (.invokevirtual 25, 3) := by decide +kernel
theorem d_ln_law_166 : decode code 166 = .ok (.if_icmp .eq 424, 3) := by decide +kernel
theorem d_ln_law_169 : decode code 169 = .ok (.iconst 0, 1) := by decide +kernel
theorem d_ln_law_170 : decode code 170 = .ok (.ireturn, 1) := by decide +kernel
theorem d_ln_law_171 : decode code 171 = .ok (.aload_n 1, 1) := by decide +kernel
theorem d_ln_law_172 : decode code 172 = .ok (.aload_n 0, 1) := by decide +kernel
theorem d_ln_law_173 : decode code 173 = .ok (.iload_n 3, 1) := by decide +kernel
theorem d_ln_law_174 : decode code 174 = .ok (.iconst 1, 1) := by decide +kernel
theorem d_ln_law_175 : decode code 175 = .ok (.iadd, 1) := by decide +kernel
theorem d_ln_law_176 : decode code 176 = .ok (.iaload, 1) := by decide +kernel
theorem d_ln_law_177 : decode code 177 = .ok (.aload_n 0, 1) := by decide +kernel
theorem d_ln_law_178 : decode code 178 = .ok (.iload_n 3, 1) := by decide +kernel
theorem d_ln_law_179 : decode code 179 = .ok (.iconst 2, 1) := by decide +kernel
theorem d_ln_law_180 : decode code 180 = .ok (.iadd, 1) := by decide +kernel
theorem d_ln_law_181 : decode code 181 = .ok (.iaload, 1) := by decide +kernel
theorem d_ln_law_182 : decode code 182 = .ok (.invokevirtual 26, 3) := by decide +kernel
theorem d_ln_law_185 : decode code 185 = .ok (.aload_n 2, 1) := by decide +kernel
theorem d_ln_law_186 : decode code 186 = .ok (.aload_n 0, 1) := by decide +kernel
theorem d_ln_law_187 : decode code 187 = .ok (.iload_n 3, 1) := by decide +kernel
theorem d_ln_law_188 : decode code 188 = .ok (.iconst 1, 1) := by decide +kernel
theorem d_ln_law_189 : decode code 189 = .ok (.iadd, 1) := by decide +kernel
theorem d_ln_law_190 : decode code 190 = .ok (.iaload, 1) := by decide +kernel
theorem d_ln_law_191 : decode code 191 = .ok (.aload_n 0, 1) := by decide +kernel
theorem d_ln_law_192 : decode code 192 = .ok (.iload_n 3, 1) := by decide +kernel
theorem d_ln_law_193 : decode code 193 = .ok (.iconst 2, 1) := by decide +kernel
theorem d_ln_law_194 : decode code 194 = .ok (.iadd, 1) := by decide +kernel
theorem d_ln_law_195 : decode code 195 = .ok (.iaload, 1) := by decide +kernel
theorem d_ln_law_196 : decode code 196 = .ok (.invokevirtual 30, 3) := by decide +kernel
theorem d_ln_law_199 : decode code 199 = .ok (.if_icmp .eq 391, 3) := by decide +kernel
theorem d_ln_law_202 : decode code 202 = .ok (.iconst 0, 1) := by decide +kernel
theorem d_ln_law_203 : decode code 203 = .ok (.ireturn, 1) := by decide +kernel
theorem d_ln_law_204 : decode code 204 = .ok (.aload_n 1, 1) := by decide +kernel
theorem d_ln_law_205 : decode code 205 = .ok (.invokevirtual 31, 3) := by decide +kernel
theorem d_ln_law_208 : decode code 208 = .ok (.aload_n 2, 1) := by decide +kernel
theorem d_ln_law_209 : decode code 209 = .ok (.invokevirtual 35, 3) := by decide +kernel
theorem d_ln_law_212 : decode code 212 = .ok (.if_icmp .eq 378, 3) := by decide +kernel
theorem d_ln_law_215 : decode code 215 = .ok (.iconst 0, 1) := by decide +kernel
theorem d_ln_law_216 : decode code 216 = .ok (.ireturn, 1) := by decide +kernel
theorem d_ln_law_217 : decode code 217 = .ok (.aload_n 1, 1) := by decide +kernel
theorem d_ln_law_218 : decode code 218 = .ok (.aload_n 0, 1) := by decide +kernel
theorem d_ln_law_219 : decode code 219 = .ok (.iload_n 3, 1) := by decide +kernel
theorem d_ln_law_220 : decode code 220 = .ok (.iconst 1, 1) := by decide +kernel
theorem d_ln_law_221 : decode code 221 = .ok (.iadd, 1) := by decide +kernel
theorem d_ln_law_222 : decode code 222 = .ok (.iaload, 1) := by decide +kernel
theorem d_ln_law_223 : decode code 223 = .ok (.invokevirtual 36, 3) := by decide +kernel
theorem d_ln_law_226 : decode code 226 = .ok (.aload_n 2, 1) := by decide +kernel
theorem d_ln_law_227 : decode code 227 = .ok (.aload_n 0, 1) := by decide +kernel
theorem d_ln_law_228 : decode code 228 = .ok (.iload_n 3, 1) := by decide +kernel
theorem d_ln_law_229 : decode code 229 = .ok (.iconst 1, 1) := by decide +kernel
theorem d_ln_law_230 : decode code 230 = .ok (.iadd, 1) := by decide +kernel
theorem d_ln_law_231 : decode code 231 = .ok (.iaload, 1) := by decide +kernel
theorem d_ln_law_232 : decode code 232 = .ok (.invokevirtual 40, 3) := by decide +kernel
theorem d_ln_law_235 : decode code 235 = .ok (.if_icmp .eq 355, 3) := by decide +kernel
theorem d_ln_law_238 : decode code 238 = .ok (.iconst 0, 1) := by decide +kernel
theorem d_ln_law_239 : decode code 239 = .ok (.ireturn, 1) := by decide +kernel
theorem d_ln_law_240 : decode code 240 = .ok (.aload_n 1, 1) := by decide +kernel
theorem d_ln_law_241 : decode code 241 = .ok (.aload_n 0, 1) := by decide +kernel
theorem d_ln_law_242 : decode code 242 = .ok (.iload_n 3, 1) := by decide +kernel
theorem d_ln_law_243 : decode code 243 = .ok (.iconst 1, 1) := by decide +kernel
theorem d_ln_law_244 : decode code 244 = .ok (.iadd, 1) := by decide +kernel
theorem d_ln_law_245 : decode code 245 = .ok (.iaload, 1) := by decide +kernel
theorem d_ln_law_246 : decode code 246 = .ok (.invokevirtual 41, 3) := by decide +kernel
theorem d_ln_law_249 : decode code 249 = .ok (.aload_n 2, 1) := by decide +kernel
theorem d_ln_law_250 : decode code 250 = .ok (.aload_n 0, 1) := by decide +kernel
theorem d_ln_law_251 : decode code 251 = .ok (.iload_n 3, 1) := by decide +kernel
theorem d_ln_law_252 : decode code 252 = .ok (.iconst 1, 1) := by decide +kernel
theorem d_ln_law_253 : decode code 253 = .ok (.iadd, 1) := by decide +kernel
theorem d_ln_law_254 : decode code 254 = .ok (.iaload, 1) := by decide +kernel
theorem d_ln_law_255 : decode code 255 = .ok (.invokevirtual 44, 3) := by decide +kernel
theorem d_ln_law_258 : decode code 258 = .ok (.if_icmp .eq 332, 3) := by decide +kernel
theorem d_ln_law_261 : decode code 261 = .ok (.iconst 0, 1) := by decide +kernel
theorem d_ln_law_262 : decode code 262 = .ok (.ireturn, 1) := by decide +kernel
theorem d_ln_law_263 : decode code 263 = .ok (.aload_n 1, 1) := by decide +kernel
theorem d_ln_law_264 : decode code 264 = .ok (.aload_n 0, 1) := by decide +kernel
theorem d_ln_law_265 : decode code 265 = .ok (.iload_n 3, 1) := by decide +kernel
theorem d_ln_law_266 : decode code 266 = .ok (.iconst 1, 1) := by decide +kernel
theorem d_ln_law_267 : decode code 267 = .ok (.iadd, 1) := by decide +kernel
theorem d_ln_law_268 : decode code 268 = .ok (.iaload, 1) := by decide +kernel
theorem d_ln_law_269 : decode code 269 = .ok (.aload_n 0, 1) := by decide +kernel
theorem d_ln_law_270 : decode code 270 = .ok (.iload_n 3, 1) := by decide +kernel
theorem d_ln_law_271 : decode code 271 = .ok (.iconst 2, 1) := by decide +kernel
theorem d_ln_law_272 : decode code 272 = .ok (.iadd, 1) := by decide +kernel
theorem d_ln_law_273 : decode code 273 = .ok (.iaload, 1) := by decide +kernel
theorem d_ln_law_274 : decode code 274 = .ok (.invokevirtual 45, 3) := by decide +kernel
theorem d_ln_law_277 : decode code 277 = .ok (.aload_n 2, 1) := by decide +kernel
theorem d_ln_law_278 : decode code 278 = .ok (.aload_n 0, 1) := by decide +kernel
theorem d_ln_law_279 : decode code 279 = .ok (.iload_n 3, 1) := by decide +kernel
theorem d_ln_law_280 : decode code 280 = .ok (.iconst 1, 1) := by decide +kernel
theorem d_ln_law_281 : decode code 281 = .ok (.iadd, 1) := by decide +kernel
theorem d_ln_law_282 : decode code 282 = .ok (.iaload, 1) := by decide +kernel
theorem d_ln_law_283 : decode code 283 = .ok (.aload_n 0, 1) := by decide +kernel
theorem d_ln_law_284 : decode code 284 = .ok (.iload_n 3, 1) := by decide +kernel
theorem d_ln_law_285 : decode code 285 = .ok (.iconst 2, 1) := by decide +kernel
theorem d_ln_law_286 : decode code 286 = .ok (.iadd, 1) := by decide +kernel
theorem d_ln_law_287 : decode code 287 = .ok (.iaload, 1) := by decide +kernel
theorem d_ln_law_288 : decode code 288 = .ok (.invokevirtual 49, 3) := by decide +kernel
theorem d_ln_law_291 : decode code 291 = .ok (.if_icmp .eq 299, 3) := by decide +kernel
theorem d_ln_law_294 : decode code 294 = .ok (.iconst 0, 1) := by decide +kernel
theorem d_ln_law_295 : decode code 295 = .ok (.ireturn, 1) := by decide +kernel
theorem d_ln_law_296 : decode code 296 = .ok (.aload_n 1, 1) := by decide +kernel
theorem d_ln_law_297 : decode code 297 = .ok (.invokevirtual 50, 3) := by decide +kernel
theorem d_ln_law_300 : decode code 300 = .ok (.aload_n 2, 1) := by decide +kernel
theorem d_ln_law_301 : decode code 301 = .ok (.invokevirtual 53, 3) := by decide +kernel
theorem d_ln_law_304 : decode code 304 = .ok (.goto 286, 3) := by decide +kernel
theorem d_ln_law_307 : decode code 307 = .ok (.aload_n 1, 1) := by decide +kernel
theorem d_ln_law_308 : decode code 308 = .ok (.aload_n 0, 1) := by decide +kernel
theorem d_ln_law_309 : decode code 309 = .ok (.iload_n 3, 1) := by decide +kernel
theorem d_ln_law_310 : decode code 310 = .ok (.iconst 1, 1) := by decide +kernel
theorem d_ln_law_311 : decode code 311 = .ok (.iadd, 1) := by decide +kernel
theorem d_ln_law_312 : decode code 312 = .ok (.iaload, 1) := by decide +kernel
theorem d_ln_law_313 : decode code 313 = .ok (.aload_n 0, 1) := by decide +kernel
theorem d_ln_law_314 : decode code 314 = .ok (.iload_n 3, 1) := by decide +kernel
theorem d_ln_law_315 : decode code 315 = .ok (.iconst 2, 1) := by decide +kernel
theorem d_ln_law_316 : decode code 316 = .ok (.iadd, 1) := by decide +kernel
theorem d_ln_law_317 : decode code 317 = .ok (.iaload, 1) := by decide +kernel
theorem d_ln_law_318 : decode code 318 = .ok (.invokevirtual 54, 3) := by decide +kernel
theorem d_ln_law_321 : decode code 321 = .ok (.aload_n 2, 1) := by decide +kernel
theorem d_ln_law_322 : decode code 322 = .ok (.aload_n 0, 1) := by decide +kernel
theorem d_ln_law_323 : decode code 323 = .ok (.iload_n 3, 1) := by decide +kernel
theorem d_ln_law_324 : decode code 324 = .ok (.iconst 1, 1) := by decide +kernel
theorem d_ln_law_325 : decode code 325 = .ok (.iadd, 1) := by decide +kernel
theorem d_ln_law_326 : decode code 326 = .ok (.iaload, 1) := by decide +kernel
theorem d_ln_law_327 : decode code 327 = .ok (.aload_n 0, 1) := by decide +kernel
theorem d_ln_law_328 : decode code 328 = .ok (.iload_n 3, 1) := by decide +kernel
theorem d_ln_law_329 : decode code 329 = .ok (.iconst 2, 1) := by decide +kernel
theorem d_ln_law_330 : decode code 330 = .ok (.iadd, 1) := by decide +kernel
theorem d_ln_law_331 : decode code 331 = .ok (.iaload, 1) := by decide +kernel
theorem d_ln_law_332 : decode code 332 = .ok (.invokevirtual 57, 3) := by decide +kernel
theorem d_ln_law_335 : decode code 335 = .ok (.if_icmp .eq 255, 3) := by decide +kernel
theorem d_ln_law_338 : decode code 338 = .ok (.iconst 0, 1) := by decide +kernel
theorem d_ln_law_339 : decode code 339 = .ok (.ireturn, 1) := by decide +kernel
theorem d_ln_law_340 : decode code 340 = .ok (.aload_n 1, 1) := by decide +kernel
theorem d_ln_law_341 : decode code 341 = .ok (.aload_n 0, 1) := by decide +kernel
theorem d_ln_law_342 : decode code 342 = .ok (.iload_n 3, 1) := by decide +kernel
theorem d_ln_law_343 : decode code 343 = .ok (.iconst 1, 1) := by decide +kernel
theorem d_ln_law_344 : decode code 344 = .ok (.iadd, 1) := by decide +kernel
theorem d_ln_law_345 : decode code 345 = .ok (.iaload, 1) := by decide +kernel
theorem d_ln_law_346 : decode code 346 = .ok (.invokevirtual 58, 3) := by decide +kernel
theorem d_ln_law_349 : decode code 349 = .ok (.aload_n 2, 1) := by decide +kernel
theorem d_ln_law_350 : decode code 350 = .ok (.aload_n 0, 1) := by decide +kernel
theorem d_ln_law_351 : decode code 351 = .ok (.iload_n 3, 1) := by decide +kernel
theorem d_ln_law_352 : decode code 352 = .ok (.iconst 1, 1) := by decide +kernel
theorem d_ln_law_353 : decode code 353 = .ok (.iadd, 1) := by decide +kernel
theorem d_ln_law_354 : decode code 354 = .ok (.iaload, 1) := by decide +kernel
theorem d_ln_law_355 : decode code 355 = .ok (.invokevirtual 62, 3) := by decide +kernel
theorem d_ln_law_358 : decode code 358 = .ok (.if_icmp .eq 232, 3) := by decide +kernel
theorem d_ln_law_361 : decode code 361 = .ok (.iconst 0, 1) := by decide +kernel
theorem d_ln_law_362 : decode code 362 = .ok (.ireturn, 1) := by decide +kernel
theorem d_ln_law_363 : decode code 363 = .ok (.aload_n 1, 1) := by decide +kernel
theorem d_ln_law_364 : decode code 364 = .ok (.aload_n 0, 1) := by decide +kernel
theorem d_ln_law_365 : decode code 365 = .ok (.iload_n 3, 1) := by decide +kernel
theorem d_ln_law_366 : decode code 366 = .ok (.iconst 1, 1) := by decide +kernel
theorem d_ln_law_367 : decode code 367 = .ok (.iadd, 1) := by decide +kernel
theorem d_ln_law_368 : decode code 368 = .ok (.iaload, 1) := by decide +kernel
theorem d_ln_law_369 : decode code 369 = .ok (.invokevirtual 63, 3) := by decide +kernel
theorem d_ln_law_372 : decode code 372 = .ok (.aload_n 2, 1) := by decide +kernel
theorem d_ln_law_373 : decode code 373 = .ok (.aload_n 0, 1) := by decide +kernel
theorem d_ln_law_374 : decode code 374 = .ok (.iload_n 3, 1) := by decide +kernel
theorem d_ln_law_375 : decode code 375 = .ok (.iconst 1, 1) := by decide +kernel
theorem d_ln_law_376 : decode code 376 = .ok (.iadd, 1) := by decide +kernel
theorem d_ln_law_377 : decode code 377 = .ok (.iaload, 1) := by decide +kernel
theorem d_ln_law_378 : decode code 378 = .ok (.invokevirtual 66, 3) := by decide +kernel
theorem d_ln_law_381 : decode code 381 = .ok (.if_icmp .eq 209, 3) := by decide +kernel
theorem d_ln_law_384 : decode code 384 = .ok (.iconst 0, 1) := by decide +kernel
theorem d_ln_law_385 : decode code 385 = .ok (.ireturn, 1) := by decide +kernel
theorem d_ln_law_386 : decode code 386 = .ok (.aload_n 1, 1) := by decide +kernel
theorem d_ln_law_387 : decode code 387 = .ok (.aload_n 0, 1) := by decide +kernel
theorem d_ln_law_388 : decode code 388 = .ok (.iload_n 3, 1) := by decide +kernel
theorem d_ln_law_389 : decode code 389 = .ok (.iconst 1, 1) := by decide +kernel
theorem d_ln_law_390 : decode code 390 = .ok (.iadd, 1) := by decide +kernel
theorem d_ln_law_391 : decode code 391 = .ok (.iaload, 1) := by decide +kernel
theorem d_ln_law_392 : decode code 392 = .ok (.aload_n 0, 1) := by decide +kernel
theorem d_ln_law_393 : decode code 393 = .ok (.iload_n 3, 1) := by decide +kernel
theorem d_ln_law_394 : decode code 394 = .ok (.iconst 2, 1) := by decide +kernel
theorem d_ln_law_395 : decode code 395 = .ok (.iadd, 1) := by decide +kernel
theorem d_ln_law_396 : decode code 396 = .ok (.iaload, 1) := by decide +kernel
theorem d_ln_law_397 : decode code 397 = .ok (.invokevirtual 67, 3) := by decide +kernel
theorem d_ln_law_400 : decode code 400 = .ok (.aload_n 2, 1) := by decide +kernel
theorem d_ln_law_401 : decode code 401 = .ok (.aload_n 0, 1) := by decide +kernel
theorem d_ln_law_402 : decode code 402 = .ok (.iload_n 3, 1) := by decide +kernel
theorem d_ln_law_403 : decode code 403 = .ok (.iconst 1, 1) := by decide +kernel
theorem d_ln_law_404 : decode code 404 = .ok (.iadd, 1) := by decide +kernel
theorem d_ln_law_405 : decode code 405 = .ok (.iaload, 1) := by decide +kernel
theorem d_ln_law_406 : decode code 406 = .ok (.aload_n 0, 1) := by decide +kernel
theorem d_ln_law_407 : decode code 407 = .ok (.iload_n 3, 1) := by decide +kernel
theorem d_ln_law_408 : decode code 408 = .ok (.iconst 2, 1) := by decide +kernel
theorem d_ln_law_409 : decode code 409 = .ok (.iadd, 1) := by decide +kernel
theorem d_ln_law_410 : decode code 410 = .ok (.iaload, 1) := by decide +kernel
theorem d_ln_law_411 : decode code 411 = .ok (.invokevirtual 70, 3) := by decide +kernel
theorem d_ln_law_414 : decode code 414 = .ok (.if_icmp .eq 176, 3) := by decide +kernel
theorem d_ln_law_417 : decode code 417 = .ok (.iconst 0, 1) := by decide +kernel
theorem d_ln_law_418 : decode code 418 = .ok (.ireturn, 1) := by decide +kernel
theorem d_ln_law_419 : decode code 419 = .ok (.aload_n 1, 1) := by decide +kernel
theorem d_ln_law_420 : decode code 420 = .ok (.aload_n 0, 1) := by decide +kernel
theorem d_ln_law_421 : decode code 421 = .ok (.iload_n 3, 1) := by decide +kernel
theorem d_ln_law_422 : decode code 422 = .ok (.iconst 1, 1) := by decide +kernel
theorem d_ln_law_423 : decode code 423 = .ok (.iadd, 1) := by decide +kernel
theorem d_ln_law_424 : decode code 424 = .ok (.iaload, 1) := by decide +kernel
theorem d_ln_law_425 : decode code 425 = .ok (.invokevirtual 71, 3) := by decide +kernel
theorem d_ln_law_428 : decode code 428 = .ok (.aload_n 2, 1) := by decide +kernel
theorem d_ln_law_429 : decode code 429 = .ok (.aload_n 0, 1) := by decide +kernel
theorem d_ln_law_430 : decode code 430 = .ok (.iload_n 3, 1) := by decide +kernel
theorem d_ln_law_431 : decode code 431 = .ok (.iconst 1, 1) := by decide +kernel
theorem d_ln_law_432 : decode code 432 = .ok (.iadd, 1) := by decide +kernel
theorem d_ln_law_433 : decode code 433 = .ok (.iaload, 1) := by decide +kernel
theorem d_ln_law_434 : decode code 434 = .ok (.invokevirtual 74, 3) := by decide +kernel
theorem d_ln_law_437 : decode code 437 = .ok (.if_icmp .eq 153, 3) := by decide +kernel
theorem d_ln_law_440 : decode code 440 = .ok (.iconst 0, 1) := by decide +kernel
theorem d_ln_law_441 : decode code 441 = .ok (.ireturn, 1) := by decide +kernel
theorem d_ln_law_442 : decode code 442 = .ok (.aload_n 1, 1) := by decide +kernel
theorem d_ln_law_443 : decode code 443 = .ok (.aload_n 0, 1) := by decide +kernel
theorem d_ln_law_444 : decode code 444 = .ok (.iload_n 3, 1) := by decide +kernel
theorem d_ln_law_445 : decode code 445 = .ok (.iconst 1, 1) := by decide +kernel
theorem d_ln_law_446 : decode code 446 = .ok (.iadd, 1) := by decide +kernel
theorem d_ln_law_447 : decode code 447 = .ok (.iaload, 1) := by decide +kernel
theorem d_ln_law_448 : decode code 448 = .ok (.aload_n 0, 1) := by decide +kernel
theorem d_ln_law_449 : decode code 449 = .ok (.iload_n 3, 1) := by decide +kernel
theorem d_ln_law_450 : decode code 450 = .ok (.iconst 2, 1) := by decide +kernel
theorem d_ln_law_451 : decode code 451 = .ok (.iadd, 1) := by decide +kernel
theorem d_ln_law_452 : decode code 452 = .ok (.iaload, 1) := by decide +kernel
theorem d_ln_law_453 : decode code 453 = .ok (.invokevirtual 75, 3) := by decide +kernel
theorem d_ln_law_456 : decode code 456 = .ok (.aload_n 2, 1) := by decide +kernel
theorem d_ln_law_457 : decode code 457 = .ok (.aload_n 0, 1) := by decide +kernel
theorem d_ln_law_458 : decode code 458 = .ok (.iload_n 3, 1) := by decide +kernel
theorem d_ln_law_459 : decode code 459 = .ok (.iconst 1, 1) := by decide +kernel
theorem d_ln_law_460 : decode code 460 = .ok (.iadd, 1) := by decide +kernel
theorem d_ln_law_461 : decode code 461 = .ok (.iaload, 1) := by decide +kernel
theorem d_ln_law_462 : decode code 462 = .ok (.aload_n 0, 1) := by decide +kernel
theorem d_ln_law_463 : decode code 463 = .ok (.iload_n 3, 1) := by decide +kernel
theorem d_ln_law_464 : decode code 464 = .ok (.iconst 2, 1) := by decide +kernel
theorem d_ln_law_465 : decode code 465 = .ok (.iadd, 1) := by decide +kernel
theorem d_ln_law_466 : decode code 466 = .ok (.iaload, 1) := by decide +kernel
theorem d_ln_law_467 : decode code 467 = .ok (.invokevirtual 78, 3) := by decide +kernel
theorem d_ln_law_470 : decode code 470 = .ok (.if_icmp .eq 120, 3) := by decide +kernel
theorem d_ln_law_473 : decode code 473 = .ok (.iconst 0, 1) := by decide +kernel
theorem d_ln_law_474 : decode code 474 = .ok (.ireturn, 1) := by decide +kernel
theorem d_ln_law_475 : decode code 475 = .ok (.aload_n 1, 1) := by decide +kernel
theorem d_ln_law_476 : decode code 476 = .ok (.aload_n 0, 1) := by decide +kernel
theorem d_ln_law_477 : decode code 477 = .ok (.iload_n 3, 1) := by decide +kernel
theorem d_ln_law_478 : decode code 478 = .ok (.iconst 1, 1) := by decide +kernel
theorem d_ln_law_479 : decode code 479 = .ok (.iadd, 1) := by decide +kernel
theorem d_ln_law_480 : decode code 480 = .ok (.iaload, 1) := by decide +kernel
theorem d_ln_law_481 : decode code 481 = .ok (.invokevirtual 79, 3) := by decide +kernel
theorem d_ln_law_484 : decode code 484 = .ok (.aload_n 2, 1) := by decide +kernel
theorem d_ln_law_485 : decode code 485 = .ok (.aload_n 0, 1) := by decide +kernel
theorem d_ln_law_486 : decode code 486 = .ok (.iload_n 3, 1) := by decide +kernel
theorem d_ln_law_487 : decode code 487 = .ok (.iconst 1, 1) := by decide +kernel
theorem d_ln_law_488 : decode code 488 = .ok (.iadd, 1) := by decide +kernel
theorem d_ln_law_489 : decode code 489 = .ok (.iaload, 1) := by decide +kernel
theorem d_ln_law_490 : decode code 490 = .ok (.invokevirtual 82, 3) := by decide +kernel
theorem d_ln_law_493 : decode code 493 = .ok (.if_icmp .eq 97, 3) := by decide +kernel
theorem d_ln_law_496 : decode code 496 = .ok (.iconst 0, 1) := by decide +kernel
theorem d_ln_law_497 : decode code 497 = .ok (.ireturn, 1) := by decide +kernel
theorem d_ln_law_498 : decode code 498 = .ok (.aload_n 1, 1) := by decide +kernel
theorem d_ln_law_499 : decode code 499 = .ok (.aload_n 0, 1) := by decide +kernel
theorem d_ln_law_500 : decode code 500 = .ok (.iload_n 3, 1) := by decide +kernel
theorem d_ln_law_501 : decode code 501 = .ok (.iconst 1, 1) := by decide +kernel
theorem d_ln_law_502 : decode code 502 = .ok (.iadd, 1) := by decide +kernel
theorem d_ln_law_503 : decode code 503 = .ok (.iaload, 1) := by decide +kernel
theorem d_ln_law_504 : decode code 504 = .ok (.invokevirtual 83, 3) := by decide +kernel
theorem d_ln_law_507 : decode code 507 = .ok (.aload_n 2, 1) := by decide +kernel
theorem d_ln_law_508 : decode code 508 = .ok (.aload_n 0, 1) := by decide +kernel
theorem d_ln_law_509 : decode code 509 = .ok (.iload_n 3, 1) := by decide +kernel
theorem d_ln_law_510 : decode code 510 = .ok (.iconst 1, 1) := by decide +kernel
theorem d_ln_law_511 : decode code 511 = .ok (.iadd, 1) := by decide +kernel
theorem d_ln_law_512 : decode code 512 = .ok (.iaload, 1) := by decide +kernel
theorem d_ln_law_513 : decode code 513 = .ok (.invokevirtual 86, 3) := by decide +kernel
theorem d_ln_law_516 : decode code 516 = .ok (.if_icmp .eq 74, 3) := by decide +kernel
theorem d_ln_law_519 : decode code 519 = .ok (.iconst 0, 1) := by decide +kernel
theorem d_ln_law_520 : decode code 520 = .ok (.ireturn, 1) := by decide +kernel
theorem d_ln_law_521 : decode code 521 = .ok (.aload_n 1, 1) := by decide +kernel
theorem d_ln_law_522 : decode code 522 = .ok (.aload_n 0, 1) := by decide +kernel
theorem d_ln_law_523 : decode code 523 = .ok (.iload_n 3, 1) := by decide +kernel
theorem d_ln_law_524 : decode code 524 = .ok (.iconst 1, 1) := by decide +kernel
theorem d_ln_law_525 : decode code 525 = .ok (.iadd, 1) := by decide +kernel
theorem d_ln_law_526 : decode code 526 = .ok (.iaload, 1) := by decide +kernel
theorem d_ln_law_527 : decode code 527 = .ok (.aload_n 0, 1) := by decide +kernel
theorem d_ln_law_528 : decode code 528 = .ok (.iload_n 3, 1) := by decide +kernel
theorem d_ln_law_529 : decode code 529 = .ok (.iconst 2, 1) := by decide +kernel
theorem d_ln_law_530 : decode code 530 = .ok (.iadd, 1) := by decide +kernel
theorem d_ln_law_531 : decode code 531 = .ok (.iaload, 1) := by decide +kernel
theorem d_ln_law_532 : decode code 532 = .ok (.invokevirtual 87, 3) := by decide +kernel
theorem d_ln_law_535 : decode code 535 = .ok (.aload_n 2, 1) := by decide +kernel
theorem d_ln_law_536 : decode code 536 = .ok (.aload_n 0, 1) := by decide +kernel
theorem d_ln_law_537 : decode code 537 = .ok (.iload_n 3, 1) := by decide +kernel
theorem d_ln_law_538 : decode code 538 = .ok (.iconst 1, 1) := by decide +kernel
theorem d_ln_law_539 : decode code 539 = .ok (.iadd, 1) := by decide +kernel
theorem d_ln_law_540 : decode code 540 = .ok (.iaload, 1) := by decide +kernel
theorem d_ln_law_541 : decode code 541 = .ok (.aload_n 0, 1) := by decide +kernel
theorem d_ln_law_542 : decode code 542 = .ok (.iload_n 3, 1) := by decide +kernel
theorem d_ln_law_543 : decode code 543 = .ok (.iconst 2, 1) := by decide +kernel
theorem d_ln_law_544 : decode code 544 = .ok (.iadd, 1) := by decide +kernel
theorem d_ln_law_545 : decode code 545 = .ok (.iaload, 1) := by decide +kernel
theorem d_ln_law_546 : decode code 546 = .ok (.invokevirtual 90, 3) := by decide +kernel
theorem d_ln_law_549 : decode code 549 = .ok (.if_icmp .eq 41, 3) := by decide +kernel
theorem d_ln_law_552 : decode code 552 = .ok (.iconst 0, 1) := by decide +kernel
theorem d_ln_law_553 : decode code 553 = .ok (.ireturn, 1) := by decide +kernel
theorem d_ln_law_554 : decode code 554 = .ok (.aload_n 1, 1) := by decide +kernel
theorem d_ln_law_555 : decode code 555 = .ok (.aload_n 0, 1) := by decide +kernel
theorem d_ln_law_556 : decode code 556 = .ok (.iload_n 3, 1) := by decide +kernel
theorem d_ln_law_557 : decode code 557 = .ok (.iconst 1, 1) := by decide +kernel
theorem d_ln_law_558 : decode code 558 = .ok (.iadd, 1) := by decide +kernel
theorem d_ln_law_559 : decode code 559 = .ok (.iaload, 1) := by decide +kernel
theorem d_ln_law_560 : decode code 560 = .ok (.invokevirtual 91, 3) := by decide +kernel
theorem d_ln_law_563 : decode code 563 = .ok (.aload_n 2, 1) := by decide +kernel
theorem d_ln_law_564 : decode code 564 = .ok (.aload_n 0, 1) := by decide +kernel
theorem d_ln_law_565 : decode code 565 = .ok (.iload_n 3, 1) := by decide +kernel
theorem d_ln_law_566 : decode code 566 = .ok (.iconst 1, 1) := by decide +kernel
theorem d_ln_law_567 : decode code 567 = .ok (.iadd, 1) := by decide +kernel
theorem d_ln_law_568 : decode code 568 = .ok (.iaload, 1) := by decide +kernel
theorem d_ln_law_569 : decode code 569 = .ok (.invokevirtual 94, 3) := by decide +kernel
theorem d_ln_law_572 : decode code 572 = .ok (.if_icmp .eq 18, 3) := by decide +kernel
theorem d_ln_law_575 : decode code 575 = .ok (.iconst 0, 1) := by decide +kernel
theorem d_ln_law_576 : decode code 576 = .ok (.ireturn, 1) := by decide +kernel
theorem d_ln_law_577 : decode code 577 = .ok (.aload_n 1, 1) := by decide +kernel
theorem d_ln_law_578 : decode code 578 = .ok (.invokevirtual 95, 3) := by decide +kernel
theorem d_ln_law_581 : decode code 581 = .ok (.aload_n 2, 1) := by decide +kernel
theorem d_ln_law_582 : decode code 582 = .ok (.invokevirtual 98, 3) := by decide +kernel
theorem d_ln_law_585 : decode code 585 = .ok (.if_icmp .eq 5, 3) := by decide +kernel
theorem d_ln_law_588 : decode code 588 = .ok (.iconst 0, 1) := by decide +kernel
theorem d_ln_law_589 : decode code 589 = .ok (.ireturn, 1) := by decide +kernel
theorem d_ln_law_590 : decode code 590 = .ok (.iinc 3 4, 3) := by decide +kernel
theorem d_ln_law_593 : decode code 593 = .ok (.goto (-565), 3) := by decide +kernel
theorem d_ln_law_596 : decode code 596 = .ok (.iconst 1, 1) := by decide +kernel
theorem d_ln_law_597 : decode code 597 = .ok (.ireturn, 1) := by decide +kernel
theorem wd_1_0 : (Cond.initialized "BlockMeshLaw") ∈ WG := mo_wg (mo_t1 (List.mem_of_getElem? (i := 0) rfl)) rfl
theorem wd_1_13 : (Cond.classLink "BlockMeshLaw" (7 : Nat) "BlockMesh") ∈ WG := mo_wg (mo_t1 (List.mem_of_getElem? (i := 13) rfl)) rfl
theorem wd_1_14 : (Cond.instantiable "BlockMesh" (9 : Nat)) ∈ WG := mo_wg (mo_t1 (List.mem_of_getElem? (i := 14) rfl)) rfl
theorem wd_1_15 : (Cond.methodLink "BlockMeshLaw" (15 : Nat) ({ cls := "BlockMesh", name := "<init>", desc := "(I)V" } : MethodName)) ∈ WG := mo_wg (mo_t1 (List.mem_of_getElem? (i := 15) rfl)) rfl
theorem wd_1_16 : (Cond.instanceMethod ({ cls := "BlockMesh", name := "<init>", desc := "(I)V" } : MethodName)) ∈ WG := mo_wg (mo_t1 (List.mem_of_getElem? (i := 16) rfl)) rfl
theorem wd_1_17 : (Cond.code ({ cls := "BlockMesh", name := "<init>", desc := "(I)V" } : MethodName) prog_1_method_1_code (2 : Nat) (Option.none : Option FieldType)) ∈ WG := mo_wg (mo_t1 (List.mem_of_getElem? (i := 17) rfl)) rfl
theorem wd_2_142 : (Cond.methodLink "BlockMeshLaw" (21 : Nat) ({ cls := "BlockMesh", name := "input", desc := "(III)Z" } : MethodName)) ∈ WG := mo_wg (mo_t2 (List.mem_of_getElem? (i := 142) rfl)) rfl
theorem wd_2_143 : (Cond.instanceMethod ({ cls := "BlockMesh", name := "input", desc := "(III)Z" } : MethodName)) ∈ WG := mo_wg (mo_t2 (List.mem_of_getElem? (i := 143) rfl)) rfl
theorem wd_2_144 : (Cond.selects "BlockMesh" ({ cls := "BlockMesh", name := "input", desc := "(III)Z" } : MethodName) ({ cls := "BlockMesh", name := "input", desc := "(III)Z" } : MethodName)) ∈ WG := mo_wg (mo_t2 (List.mem_of_getElem? (i := 144) rfl)) rfl
theorem wd_2_145 : (Cond.code ({ cls := "BlockMesh", name := "input", desc := "(III)Z" } : MethodName) prog_1_method_2_code (5 : Nat) (Option.some FieldType.boolean)) ∈ WG := mo_wg (mo_t2 (List.mem_of_getElem? (i := 145) rfl)) rfl
theorem wd_2_173 : (Cond.methodLink "BlockMeshLaw" (26 : Nat) ({ cls := "BlockMesh", name := "output", desc := "(II)Z" } : MethodName)) ∈ WG := mo_wg (mo_t2 (List.mem_of_getElem? (i := 173) rfl)) rfl
theorem wd_2_174 : (Cond.instanceMethod ({ cls := "BlockMesh", name := "output", desc := "(II)Z" } : MethodName)) ∈ WG := mo_wg (mo_t2 (List.mem_of_getElem? (i := 174) rfl)) rfl
theorem wd_2_175 : (Cond.selects "BlockMesh" ({ cls := "BlockMesh", name := "output", desc := "(II)Z" } : MethodName) ({ cls := "BlockMesh", name := "output", desc := "(II)Z" } : MethodName)) ∈ WG := mo_wg (mo_t2 (List.mem_of_getElem? (i := 175) rfl)) rfl
theorem wd_2_176 : (Cond.code ({ cls := "BlockMesh", name := "output", desc := "(II)Z" } : MethodName) prog_1_method_3_code (3 : Nat) (Option.some FieldType.boolean)) ∈ WG := mo_wg (mo_t2 (List.mem_of_getElem? (i := 176) rfl)) rfl
theorem wd_2_182 : (Cond.methodLink "BlockMeshLaw" (31 : Nat) ({ cls := "BlockMesh", name := "transaction", desc := "()I" } : MethodName)) ∈ WG := mo_wg (mo_t2 (List.mem_of_getElem? (i := 182) rfl)) rfl
theorem wd_2_183 : (Cond.instanceMethod ({ cls := "BlockMesh", name := "transaction", desc := "()I" } : MethodName)) ∈ WG := mo_wg (mo_t2 (List.mem_of_getElem? (i := 183) rfl)) rfl
theorem wd_2_184 : (Cond.selects "BlockMesh" ({ cls := "BlockMesh", name := "transaction", desc := "()I" } : MethodName) ({ cls := "BlockMesh", name := "transaction", desc := "()I" } : MethodName)) ∈ WG := mo_wg (mo_t2 (List.mem_of_getElem? (i := 184) rfl)) rfl
theorem wd_2_185 : (Cond.code ({ cls := "BlockMesh", name := "transaction", desc := "()I" } : MethodName) prog_1_method_4_code (1 : Nat) (Option.some FieldType.int)) ∈ WG := mo_wg (mo_t2 (List.mem_of_getElem? (i := 185) rfl)) rfl
theorem wd_2_195 : (Cond.methodLink "BlockMeshLaw" (36 : Nat) ({ cls := "BlockMesh", name := "parent", desc := "(I)Z" } : MethodName)) ∈ WG := mo_wg (mo_t2 (List.mem_of_getElem? (i := 195) rfl)) rfl
theorem wd_2_196 : (Cond.instanceMethod ({ cls := "BlockMesh", name := "parent", desc := "(I)Z" } : MethodName)) ∈ WG := mo_wg (mo_t2 (List.mem_of_getElem? (i := 196) rfl)) rfl
theorem wd_2_197 : (Cond.selects "BlockMesh" ({ cls := "BlockMesh", name := "parent", desc := "(I)Z" } : MethodName) ({ cls := "BlockMesh", name := "parent", desc := "(I)Z" } : MethodName)) ∈ WG := mo_wg (mo_t2 (List.mem_of_getElem? (i := 197) rfl)) rfl
theorem wd_2_198 : (Cond.code ({ cls := "BlockMesh", name := "parent", desc := "(I)Z" } : MethodName) prog_1_method_5_code (2 : Nat) (Option.some FieldType.boolean)) ∈ WG := mo_wg (mo_t2 (List.mem_of_getElem? (i := 198) rfl)) rfl
theorem wd_2_211 : (Cond.methodLink "BlockMeshLaw" (41 : Nat) ({ cls := "BlockMesh", name := "include", desc := "(I)Z" } : MethodName)) ∈ WG := mo_wg (mo_t2 (List.mem_of_getElem? (i := 211) rfl)) rfl
theorem wd_2_212 : (Cond.instanceMethod ({ cls := "BlockMesh", name := "include", desc := "(I)Z" } : MethodName)) ∈ WG := mo_wg (mo_t2 (List.mem_of_getElem? (i := 212) rfl)) rfl
theorem wd_2_213 : (Cond.selects "BlockMesh" ({ cls := "BlockMesh", name := "include", desc := "(I)Z" } : MethodName) ({ cls := "BlockMesh", name := "include", desc := "(I)Z" } : MethodName)) ∈ WG := mo_wg (mo_t2 (List.mem_of_getElem? (i := 213) rfl)) rfl
theorem wd_2_214 : (Cond.code ({ cls := "BlockMesh", name := "include", desc := "(I)Z" } : MethodName) prog_1_method_6_code (2 : Nat) (Option.some FieldType.boolean)) ∈ WG := mo_wg (mo_t2 (List.mem_of_getElem? (i := 214) rfl)) rfl
theorem wd_2_215 : (Cond.methodLink "BlockMeshLaw" (45 : Nat) ({ cls := "BlockMesh", name := "make", desc := "(II)I" } : MethodName)) ∈ WG := mo_wg (mo_t2 (List.mem_of_getElem? (i := 215) rfl)) rfl
theorem wd_2_216 : (Cond.instanceMethod ({ cls := "BlockMesh", name := "make", desc := "(II)I" } : MethodName)) ∈ WG := mo_wg (mo_t2 (List.mem_of_getElem? (i := 216) rfl)) rfl
theorem wd_2_217 : (Cond.selects "BlockMesh" ({ cls := "BlockMesh", name := "make", desc := "(II)I" } : MethodName) ({ cls := "BlockMesh", name := "make", desc := "(II)I" } : MethodName)) ∈ WG := mo_wg (mo_t2 (List.mem_of_getElem? (i := 217) rfl)) rfl
theorem wd_2_218 : (Cond.code ({ cls := "BlockMesh", name := "make", desc := "(II)I" } : MethodName) prog_1_method_7_code (4 : Nat) (Option.some FieldType.int)) ∈ WG := mo_wg (mo_t2 (List.mem_of_getElem? (i := 218) rfl)) rfl
theorem wd_2_236 : (Cond.methodLink "BlockMeshLaw" (50 : Nat) ({ cls := "BlockMesh", name := "clear", desc := "()V" } : MethodName)) ∈ WG := mo_wg (mo_t2 (List.mem_of_getElem? (i := 236) rfl)) rfl
theorem wd_2_237 : (Cond.instanceMethod ({ cls := "BlockMesh", name := "clear", desc := "()V" } : MethodName)) ∈ WG := mo_wg (mo_t2 (List.mem_of_getElem? (i := 237) rfl)) rfl
theorem wd_2_238 : (Cond.selects "BlockMesh" ({ cls := "BlockMesh", name := "clear", desc := "()V" } : MethodName) ({ cls := "BlockMesh", name := "clear", desc := "()V" } : MethodName)) ∈ WG := mo_wg (mo_t2 (List.mem_of_getElem? (i := 238) rfl)) rfl
theorem wd_2_239 : (Cond.code ({ cls := "BlockMesh", name := "clear", desc := "()V" } : MethodName) prog_1_method_8_code (1 : Nat) (Option.none : Option FieldType)) ∈ WG := mo_wg (mo_t2 (List.mem_of_getElem? (i := 239) rfl)) rfl
theorem wd_3_4 : (Cond.methodLink "BlockMeshLaw" (54 : Nat) ({ cls := "BlockMesh", name := "template", desc := "(II)I" } : MethodName)) ∈ WG := mo_wg (mo_t3 (List.mem_of_getElem? (i := 4) rfl)) rfl
theorem wd_3_5 : (Cond.instanceMethod ({ cls := "BlockMesh", name := "template", desc := "(II)I" } : MethodName)) ∈ WG := mo_wg (mo_t3 (List.mem_of_getElem? (i := 5) rfl)) rfl
theorem wd_3_6 : (Cond.selects "BlockMesh" ({ cls := "BlockMesh", name := "template", desc := "(II)I" } : MethodName) ({ cls := "BlockMesh", name := "template", desc := "(II)I" } : MethodName)) ∈ WG := mo_wg (mo_t3 (List.mem_of_getElem? (i := 6) rfl)) rfl
theorem wd_3_7 : (Cond.code ({ cls := "BlockMesh", name := "template", desc := "(II)I" } : MethodName) prog_1_method_9_code (7 : Nat) (Option.some FieldType.int)) ∈ WG := mo_wg (mo_t3 (List.mem_of_getElem? (i := 7) rfl)) rfl
theorem wd_3_11 : (Cond.methodLink "BlockMeshLaw" (58 : Nat) ({ cls := "BlockMesh", name := "receive", desc := "(I)I" } : MethodName)) ∈ WG := mo_wg (mo_t3 (List.mem_of_getElem? (i := 11) rfl)) rfl
theorem wd_3_12 : (Cond.instanceMethod ({ cls := "BlockMesh", name := "receive", desc := "(I)I" } : MethodName)) ∈ WG := mo_wg (mo_t3 (List.mem_of_getElem? (i := 12) rfl)) rfl
theorem wd_3_13 : (Cond.selects "BlockMesh" ({ cls := "BlockMesh", name := "receive", desc := "(I)I" } : MethodName) ({ cls := "BlockMesh", name := "receive", desc := "(I)I" } : MethodName)) ∈ WG := mo_wg (mo_t3 (List.mem_of_getElem? (i := 13) rfl)) rfl
theorem wd_3_14 : (Cond.code ({ cls := "BlockMesh", name := "receive", desc := "(I)I" } : MethodName) prog_1_method_10_code (2 : Nat) (Option.some FieldType.int)) ∈ WG := mo_wg (mo_t3 (List.mem_of_getElem? (i := 14) rfl)) rfl
theorem wd_3_45 : (Cond.methodLink "BlockMeshLaw" (63 : Nat) ({ cls := "BlockMesh", name := "submit", desc := "(I)I" } : MethodName)) ∈ WG := mo_wg (mo_t3 (List.mem_of_getElem? (i := 45) rfl)) rfl
theorem wd_3_46 : (Cond.instanceMethod ({ cls := "BlockMesh", name := "submit", desc := "(I)I" } : MethodName)) ∈ WG := mo_wg (mo_t3 (List.mem_of_getElem? (i := 46) rfl)) rfl
theorem wd_3_47 : (Cond.selects "BlockMesh" ({ cls := "BlockMesh", name := "submit", desc := "(I)I" } : MethodName) ({ cls := "BlockMesh", name := "submit", desc := "(I)I" } : MethodName)) ∈ WG := mo_wg (mo_t3 (List.mem_of_getElem? (i := 47) rfl)) rfl
theorem wd_3_48 : (Cond.code ({ cls := "BlockMesh", name := "submit", desc := "(I)I" } : MethodName) prog_1_method_11_code (2 : Nat) (Option.some FieldType.int)) ∈ WG := mo_wg (mo_t3 (List.mem_of_getElem? (i := 48) rfl)) rfl
theorem wd_3_51 : (Cond.methodLink "BlockMeshLaw" (67 : Nat) ({ cls := "BlockMesh", name := "block", desc := "(II)I" } : MethodName)) ∈ WG := mo_wg (mo_t3 (List.mem_of_getElem? (i := 51) rfl)) rfl
theorem wd_3_52 : (Cond.instanceMethod ({ cls := "BlockMesh", name := "block", desc := "(II)I" } : MethodName)) ∈ WG := mo_wg (mo_t3 (List.mem_of_getElem? (i := 52) rfl)) rfl
theorem wd_3_53 : (Cond.selects "BlockMesh" ({ cls := "BlockMesh", name := "block", desc := "(II)I" } : MethodName) ({ cls := "BlockMesh", name := "block", desc := "(II)I" } : MethodName)) ∈ WG := mo_wg (mo_t3 (List.mem_of_getElem? (i := 53) rfl)) rfl
theorem wd_3_54 : (Cond.code ({ cls := "BlockMesh", name := "block", desc := "(II)I" } : MethodName) prog_1_method_12_code (3 : Nat) (Option.some FieldType.int)) ∈ WG := mo_wg (mo_t3 (List.mem_of_getElem? (i := 54) rfl)) rfl
theorem wd_3_66 : (Cond.methodLink "BlockMeshLaw" (71 : Nat) ({ cls := "BlockMesh", name := "order", desc := "(I)I" } : MethodName)) ∈ WG := mo_wg (mo_t3 (List.mem_of_getElem? (i := 66) rfl)) rfl
theorem wd_3_67 : (Cond.instanceMethod ({ cls := "BlockMesh", name := "order", desc := "(I)I" } : MethodName)) ∈ WG := mo_wg (mo_t3 (List.mem_of_getElem? (i := 67) rfl)) rfl
theorem wd_3_68 : (Cond.selects "BlockMesh" ({ cls := "BlockMesh", name := "order", desc := "(I)I" } : MethodName) ({ cls := "BlockMesh", name := "order", desc := "(I)I" } : MethodName)) ∈ WG := mo_wg (mo_t3 (List.mem_of_getElem? (i := 68) rfl)) rfl
theorem wd_3_69 : (Cond.code ({ cls := "BlockMesh", name := "order", desc := "(I)I" } : MethodName) prog_1_method_13_code (2 : Nat) (Option.some FieldType.int)) ∈ WG := mo_wg (mo_t3 (List.mem_of_getElem? (i := 69) rfl)) rfl
theorem wd_3_71 : (Cond.methodLink "BlockMeshLaw" (75 : Nat) ({ cls := "BlockMesh", name := "unspent", desc := "(II)I" } : MethodName)) ∈ WG := mo_wg (mo_t3 (List.mem_of_getElem? (i := 71) rfl)) rfl
theorem wd_3_72 : (Cond.instanceMethod ({ cls := "BlockMesh", name := "unspent", desc := "(II)I" } : MethodName)) ∈ WG := mo_wg (mo_t3 (List.mem_of_getElem? (i := 72) rfl)) rfl
theorem wd_3_73 : (Cond.selects "BlockMesh" ({ cls := "BlockMesh", name := "unspent", desc := "(II)I" } : MethodName) ({ cls := "BlockMesh", name := "unspent", desc := "(II)I" } : MethodName)) ∈ WG := mo_wg (mo_t3 (List.mem_of_getElem? (i := 73) rfl)) rfl
theorem wd_3_74 : (Cond.code ({ cls := "BlockMesh", name := "unspent", desc := "(II)I" } : MethodName) prog_1_method_14_code (4 : Nat) (Option.some FieldType.int)) ∈ WG := mo_wg (mo_t3 (List.mem_of_getElem? (i := 74) rfl)) rfl
theorem wd_3_75 : (Cond.methodLink "BlockMeshLaw" (79 : Nat) ({ cls := "BlockMesh", name := "pool", desc := "(I)I" } : MethodName)) ∈ WG := mo_wg (mo_t3 (List.mem_of_getElem? (i := 75) rfl)) rfl
theorem wd_3_76 : (Cond.instanceMethod ({ cls := "BlockMesh", name := "pool", desc := "(I)I" } : MethodName)) ∈ WG := mo_wg (mo_t3 (List.mem_of_getElem? (i := 76) rfl)) rfl
theorem wd_3_77 : (Cond.selects "BlockMesh" ({ cls := "BlockMesh", name := "pool", desc := "(I)I" } : MethodName) ({ cls := "BlockMesh", name := "pool", desc := "(I)I" } : MethodName)) ∈ WG := mo_wg (mo_t3 (List.mem_of_getElem? (i := 77) rfl)) rfl
theorem wd_3_78 : (Cond.code ({ cls := "BlockMesh", name := "pool", desc := "(I)I" } : MethodName) prog_1_method_15_code (2 : Nat) (Option.some FieldType.int)) ∈ WG := mo_wg (mo_t3 (List.mem_of_getElem? (i := 78) rfl)) rfl
theorem wd_3_79 : (Cond.methodLink "BlockMeshLaw" (83 : Nat) ({ cls := "BlockMesh", name := "wanted", desc := "(I)I" } : MethodName)) ∈ WG := mo_wg (mo_t3 (List.mem_of_getElem? (i := 79) rfl)) rfl
theorem wd_3_80 : (Cond.instanceMethod ({ cls := "BlockMesh", name := "wanted", desc := "(I)I" } : MethodName)) ∈ WG := mo_wg (mo_t3 (List.mem_of_getElem? (i := 80) rfl)) rfl
theorem wd_3_81 : (Cond.selects "BlockMesh" ({ cls := "BlockMesh", name := "wanted", desc := "(I)I" } : MethodName) ({ cls := "BlockMesh", name := "wanted", desc := "(I)I" } : MethodName)) ∈ WG := mo_wg (mo_t3 (List.mem_of_getElem? (i := 81) rfl)) rfl
theorem wd_3_82 : (Cond.code ({ cls := "BlockMesh", name := "wanted", desc := "(I)I" } : MethodName) prog_1_method_16_code (6 : Nat) (Option.some FieldType.int)) ∈ WG := mo_wg (mo_t3 (List.mem_of_getElem? (i := 82) rfl)) rfl
theorem wd_3_89 : (Cond.methodLink "BlockMeshLaw" (87 : Nat) ({ cls := "BlockMesh", name := "parentOf", desc := "(II)I" } : MethodName)) ∈ WG := mo_wg (mo_t3 (List.mem_of_getElem? (i := 89) rfl)) rfl
theorem wd_3_90 : (Cond.instanceMethod ({ cls := "BlockMesh", name := "parentOf", desc := "(II)I" } : MethodName)) ∈ WG := mo_wg (mo_t3 (List.mem_of_getElem? (i := 90) rfl)) rfl
theorem wd_3_91 : (Cond.selects "BlockMesh" ({ cls := "BlockMesh", name := "parentOf", desc := "(II)I" } : MethodName) ({ cls := "BlockMesh", name := "parentOf", desc := "(II)I" } : MethodName)) ∈ WG := mo_wg (mo_t3 (List.mem_of_getElem? (i := 91) rfl)) rfl
theorem wd_3_92 : (Cond.code ({ cls := "BlockMesh", name := "parentOf", desc := "(II)I" } : MethodName) prog_1_method_17_code (3 : Nat) (Option.some FieldType.int)) ∈ WG := mo_wg (mo_t3 (List.mem_of_getElem? (i := 92) rfl)) rfl
theorem wd_3_94 : (Cond.methodLink "BlockMeshLaw" (91 : Nat) ({ cls := "BlockMesh", name := "count", desc := "(I)I" } : MethodName)) ∈ WG := mo_wg (mo_t3 (List.mem_of_getElem? (i := 94) rfl)) rfl
theorem wd_3_95 : (Cond.instanceMethod ({ cls := "BlockMesh", name := "count", desc := "(I)I" } : MethodName)) ∈ WG := mo_wg (mo_t3 (List.mem_of_getElem? (i := 95) rfl)) rfl
theorem wd_3_96 : (Cond.selects "BlockMesh" ({ cls := "BlockMesh", name := "count", desc := "(I)I" } : MethodName) ({ cls := "BlockMesh", name := "count", desc := "(I)I" } : MethodName)) ∈ WG := mo_wg (mo_t3 (List.mem_of_getElem? (i := 96) rfl)) rfl
theorem wd_3_97 : (Cond.code ({ cls := "BlockMesh", name := "count", desc := "(I)I" } : MethodName) prog_1_method_18_code (2 : Nat) (Option.some FieldType.int)) ∈ WG := mo_wg (mo_t3 (List.mem_of_getElem? (i := 97) rfl)) rfl
theorem wd_3_102 : (Cond.methodLink "BlockMeshLaw" (95 : Nat) ({ cls := "BlockMesh", name := "total", desc := "()I" } : MethodName)) ∈ WG := mo_wg (mo_t3 (List.mem_of_getElem? (i := 102) rfl)) rfl
theorem wd_3_103 : (Cond.instanceMethod ({ cls := "BlockMesh", name := "total", desc := "()I" } : MethodName)) ∈ WG := mo_wg (mo_t3 (List.mem_of_getElem? (i := 103) rfl)) rfl
theorem wd_3_104 : (Cond.selects "BlockMesh" ({ cls := "BlockMesh", name := "total", desc := "()I" } : MethodName) ({ cls := "BlockMesh", name := "total", desc := "()I" } : MethodName)) ∈ WG := mo_wg (mo_t3 (List.mem_of_getElem? (i := 104) rfl)) rfl
theorem wd_3_105 : (Cond.code ({ cls := "BlockMesh", name := "total", desc := "()I" } : MethodName) prog_1_method_19_code (1 : Nat) (Option.some FieldType.int)) ∈ WG := mo_wg (mo_t3 (List.mem_of_getElem? (i := 105) rfl)) rfl
theorem wd_3_110 : (Cond.methodLink "BlockMeshLaw" (9 : Nat) ({ cls := "BlockMeshLaw", name := "cell", desc := "([II)I" } : MethodName)) ∈ WG := mo_wg (mo_t3 (List.mem_of_getElem? (i := 110) rfl)) rfl
theorem wd_3_111 : (Cond.static ({ cls := "BlockMeshLaw", name := "cell", desc := "([II)I" } : MethodName)) ∈ WG := mo_wg (mo_t3 (List.mem_of_getElem? (i := 111) rfl)) rfl
theorem wd_3_112 : (Cond.code ({ cls := "BlockMeshLaw", name := "cell", desc := "([II)I" } : MethodName) method_2_code (2 : Nat) (Option.some FieldType.int)) ∈ WG := mo_wg (mo_t3 (List.mem_of_getElem? (i := 112) rfl)) rfl
theorem wd_3_113 : (Cond.classLink "BlockMeshLaw" (18 : Nat) "BlockMeshModel") ∈ WG := mo_wg (mo_t3 (List.mem_of_getElem? (i := 113) rfl)) rfl
theorem wd_3_114 : (Cond.instantiable "BlockMeshModel" (33 : Nat)) ∈ WG := mo_wg (mo_t3 (List.mem_of_getElem? (i := 114) rfl)) rfl
theorem wd_3_115 : (Cond.methodLink "BlockMeshLaw" (20 : Nat) ({ cls := "BlockMeshModel", name := "<init>", desc := "(I)V" } : MethodName)) ∈ WG := mo_wg (mo_t3 (List.mem_of_getElem? (i := 115) rfl)) rfl
theorem wd_3_116 : (Cond.instanceMethod ({ cls := "BlockMeshModel", name := "<init>", desc := "(I)V" } : MethodName)) ∈ WG := mo_wg (mo_t3 (List.mem_of_getElem? (i := 116) rfl)) rfl
theorem wd_3_117 : (Cond.code ({ cls := "BlockMeshModel", name := "<init>", desc := "(I)V" } : MethodName) prog_9_method_1_code (2 : Nat) (Option.none : Option FieldType)) ∈ WG := mo_wg (mo_t3 (List.mem_of_getElem? (i := 117) rfl)) rfl
theorem wd_4_48 : (Cond.methodLink "BlockMeshLaw" (25 : Nat) ({ cls := "BlockMeshModel", name := "input", desc := "(III)Z" } : MethodName)) ∈ WG := mo_wg (mo_t4 (List.mem_of_getElem? (i := 48) rfl)) rfl
theorem wd_4_49 : (Cond.instanceMethod ({ cls := "BlockMeshModel", name := "input", desc := "(III)Z" } : MethodName)) ∈ WG := mo_wg (mo_t4 (List.mem_of_getElem? (i := 49) rfl)) rfl
theorem wd_4_50 : (Cond.selects "BlockMeshModel" ({ cls := "BlockMeshModel", name := "input", desc := "(III)Z" } : MethodName) ({ cls := "BlockMeshModel", name := "input", desc := "(III)Z" } : MethodName)) ∈ WG := mo_wg (mo_t4 (List.mem_of_getElem? (i := 50) rfl)) rfl
theorem wd_4_51 : (Cond.code ({ cls := "BlockMeshModel", name := "input", desc := "(III)Z" } : MethodName) prog_9_method_5_code (7 : Nat) (Option.some FieldType.boolean)) ∈ WG := mo_wg (mo_t4 (List.mem_of_getElem? (i := 51) rfl)) rfl
theorem wd_4_52 : (Cond.methodLink "BlockMeshLaw" (30 : Nat) ({ cls := "BlockMeshModel", name := "output", desc := "(II)Z" } : MethodName)) ∈ WG := mo_wg (mo_t4 (List.mem_of_getElem? (i := 52) rfl)) rfl
theorem wd_4_53 : (Cond.instanceMethod ({ cls := "BlockMeshModel", name := "output", desc := "(II)Z" } : MethodName)) ∈ WG := mo_wg (mo_t4 (List.mem_of_getElem? (i := 53) rfl)) rfl
theorem wd_4_54 : (Cond.selects "BlockMeshModel" ({ cls := "BlockMeshModel", name := "output", desc := "(II)Z" } : MethodName) ({ cls := "BlockMeshModel", name := "output", desc := "(II)Z" } : MethodName)) ∈ WG := mo_wg (mo_t4 (List.mem_of_getElem? (i := 54) rfl)) rfl
theorem wd_4_55 : (Cond.code ({ cls := "BlockMeshModel", name := "output", desc := "(II)Z" } : MethodName) prog_9_method_6_code (4 : Nat) (Option.some FieldType.boolean)) ∈ WG := mo_wg (mo_t4 (List.mem_of_getElem? (i := 55) rfl)) rfl
theorem wd_4_56 : (Cond.methodLink "BlockMeshLaw" (35 : Nat) ({ cls := "BlockMeshModel", name := "transaction", desc := "()I" } : MethodName)) ∈ WG := mo_wg (mo_t4 (List.mem_of_getElem? (i := 56) rfl)) rfl
theorem wd_4_57 : (Cond.instanceMethod ({ cls := "BlockMeshModel", name := "transaction", desc := "()I" } : MethodName)) ∈ WG := mo_wg (mo_t4 (List.mem_of_getElem? (i := 57) rfl)) rfl
theorem wd_4_58 : (Cond.selects "BlockMeshModel" ({ cls := "BlockMeshModel", name := "transaction", desc := "()I" } : MethodName) ({ cls := "BlockMeshModel", name := "transaction", desc := "()I" } : MethodName)) ∈ WG := mo_wg (mo_t4 (List.mem_of_getElem? (i := 58) rfl)) rfl
theorem wd_4_59 : (Cond.code ({ cls := "BlockMeshModel", name := "transaction", desc := "()I" } : MethodName) prog_9_method_7_code (5 : Nat) (Option.some FieldType.int)) ∈ WG := mo_wg (mo_t4 (List.mem_of_getElem? (i := 59) rfl)) rfl
theorem wd_4_60 : (Cond.methodLink "BlockMeshLaw" (40 : Nat) ({ cls := "BlockMeshModel", name := "parent", desc := "(I)Z" } : MethodName)) ∈ WG := mo_wg (mo_t4 (List.mem_of_getElem? (i := 60) rfl)) rfl
theorem wd_4_61 : (Cond.instanceMethod ({ cls := "BlockMeshModel", name := "parent", desc := "(I)Z" } : MethodName)) ∈ WG := mo_wg (mo_t4 (List.mem_of_getElem? (i := 61) rfl)) rfl
theorem wd_4_62 : (Cond.selects "BlockMeshModel" ({ cls := "BlockMeshModel", name := "parent", desc := "(I)Z" } : MethodName) ({ cls := "BlockMeshModel", name := "parent", desc := "(I)Z" } : MethodName)) ∈ WG := mo_wg (mo_t4 (List.mem_of_getElem? (i := 62) rfl)) rfl
theorem wd_4_63 : (Cond.code ({ cls := "BlockMeshModel", name := "parent", desc := "(I)Z" } : MethodName) prog_9_method_8_code (3 : Nat) (Option.some FieldType.boolean)) ∈ WG := mo_wg (mo_t4 (List.mem_of_getElem? (i := 63) rfl)) rfl
theorem wd_4_68 : (Cond.methodLink "BlockMeshLaw" (44 : Nat) ({ cls := "BlockMeshModel", name := "include", desc := "(I)Z" } : MethodName)) ∈ WG := mo_wg (mo_t4 (List.mem_of_getElem? (i := 68) rfl)) rfl
theorem wd_4_69 : (Cond.instanceMethod ({ cls := "BlockMeshModel", name := "include", desc := "(I)Z" } : MethodName)) ∈ WG := mo_wg (mo_t4 (List.mem_of_getElem? (i := 69) rfl)) rfl
theorem wd_4_70 : (Cond.selects "BlockMeshModel" ({ cls := "BlockMeshModel", name := "include", desc := "(I)Z" } : MethodName) ({ cls := "BlockMeshModel", name := "include", desc := "(I)Z" } : MethodName)) ∈ WG := mo_wg (mo_t4 (List.mem_of_getElem? (i := 70) rfl)) rfl
theorem wd_4_71 : (Cond.code ({ cls := "BlockMeshModel", name := "include", desc := "(I)Z" } : MethodName) prog_9_method_9_code (3 : Nat) (Option.some FieldType.boolean)) ∈ WG := mo_wg (mo_t4 (List.mem_of_getElem? (i := 71) rfl)) rfl
theorem wd_4_72 : (Cond.methodLink "BlockMeshLaw" (53 : Nat) ({ cls := "BlockMeshModel", name := "clear", desc := "()V" } : MethodName)) ∈ WG := mo_wg (mo_t4 (List.mem_of_getElem? (i := 72) rfl)) rfl
theorem wd_4_73 : (Cond.instanceMethod ({ cls := "BlockMeshModel", name := "clear", desc := "()V" } : MethodName)) ∈ WG := mo_wg (mo_t4 (List.mem_of_getElem? (i := 73) rfl)) rfl
theorem wd_4_74 : (Cond.selects "BlockMeshModel" ({ cls := "BlockMeshModel", name := "clear", desc := "()V" } : MethodName) ({ cls := "BlockMeshModel", name := "clear", desc := "()V" } : MethodName)) ∈ WG := mo_wg (mo_t4 (List.mem_of_getElem? (i := 74) rfl)) rfl
theorem wd_4_75 : (Cond.code ({ cls := "BlockMeshModel", name := "clear", desc := "()V" } : MethodName) prog_9_method_10_code (1 : Nat) (Option.none : Option FieldType)) ∈ WG := mo_wg (mo_t4 (List.mem_of_getElem? (i := 75) rfl)) rfl
theorem wd_4_76 : (Cond.methodLink "BlockMeshLaw" (49 : Nat) ({ cls := "BlockMeshModel", name := "make", desc := "(II)I" } : MethodName)) ∈ WG := mo_wg (mo_t4 (List.mem_of_getElem? (i := 76) rfl)) rfl
theorem wd_4_77 : (Cond.instanceMethod ({ cls := "BlockMeshModel", name := "make", desc := "(II)I" } : MethodName)) ∈ WG := mo_wg (mo_t4 (List.mem_of_getElem? (i := 77) rfl)) rfl
theorem wd_4_78 : (Cond.selects "BlockMeshModel" ({ cls := "BlockMeshModel", name := "make", desc := "(II)I" } : MethodName) ({ cls := "BlockMeshModel", name := "make", desc := "(II)I" } : MethodName)) ∈ WG := mo_wg (mo_t4 (List.mem_of_getElem? (i := 78) rfl)) rfl
theorem wd_4_79 : (Cond.code ({ cls := "BlockMeshModel", name := "make", desc := "(II)I" } : MethodName) prog_9_method_13_code (4 : Nat) (Option.some FieldType.int)) ∈ WG := mo_wg (mo_t4 (List.mem_of_getElem? (i := 79) rfl)) rfl
theorem wd_4_89 : (Cond.methodLink "BlockMeshLaw" (62 : Nat) ({ cls := "BlockMeshModel", name := "receive", desc := "(I)I" } : MethodName)) ∈ WG := mo_wg (mo_t4 (List.mem_of_getElem? (i := 89) rfl)) rfl
theorem wd_4_90 : (Cond.instanceMethod ({ cls := "BlockMeshModel", name := "receive", desc := "(I)I" } : MethodName)) ∈ WG := mo_wg (mo_t4 (List.mem_of_getElem? (i := 90) rfl)) rfl
theorem wd_4_91 : (Cond.selects "BlockMeshModel" ({ cls := "BlockMeshModel", name := "receive", desc := "(I)I" } : MethodName) ({ cls := "BlockMeshModel", name := "receive", desc := "(I)I" } : MethodName)) ∈ WG := mo_wg (mo_t4 (List.mem_of_getElem? (i := 91) rfl)) rfl
theorem wd_4_92 : (Cond.code ({ cls := "BlockMeshModel", name := "receive", desc := "(I)I" } : MethodName) prog_9_method_36_code (4 : Nat) (Option.some FieldType.int)) ∈ WG := mo_wg (mo_t4 (List.mem_of_getElem? (i := 92) rfl)) rfl
theorem wd_4_121 : (Cond.methodLink "BlockMeshLaw" (66 : Nat) ({ cls := "BlockMeshModel", name := "submit", desc := "(I)I" } : MethodName)) ∈ WG := mo_wg (mo_t4 (List.mem_of_getElem? (i := 121) rfl)) rfl
theorem wd_4_122 : (Cond.instanceMethod ({ cls := "BlockMeshModel", name := "submit", desc := "(I)I" } : MethodName)) ∈ WG := mo_wg (mo_t4 (List.mem_of_getElem? (i := 122) rfl)) rfl
theorem wd_4_123 : (Cond.selects "BlockMeshModel" ({ cls := "BlockMeshModel", name := "submit", desc := "(I)I" } : MethodName) ({ cls := "BlockMeshModel", name := "submit", desc := "(I)I" } : MethodName)) ∈ WG := mo_wg (mo_t4 (List.mem_of_getElem? (i := 123) rfl)) rfl
theorem wd_4_124 : (Cond.code ({ cls := "BlockMeshModel", name := "submit", desc := "(I)I" } : MethodName) prog_9_method_37_code (4 : Nat) (Option.some FieldType.int)) ∈ WG := mo_wg (mo_t4 (List.mem_of_getElem? (i := 124) rfl)) rfl
theorem wd_4_125 : (Cond.methodLink "BlockMeshLaw" (57 : Nat) ({ cls := "BlockMeshModel", name := "template", desc := "(II)I" } : MethodName)) ∈ WG := mo_wg (mo_t4 (List.mem_of_getElem? (i := 125) rfl)) rfl
theorem wd_4_126 : (Cond.instanceMethod ({ cls := "BlockMeshModel", name := "template", desc := "(II)I" } : MethodName)) ∈ WG := mo_wg (mo_t4 (List.mem_of_getElem? (i := 126) rfl)) rfl
theorem wd_4_127 : (Cond.selects "BlockMeshModel" ({ cls := "BlockMeshModel", name := "template", desc := "(II)I" } : MethodName) ({ cls := "BlockMeshModel", name := "template", desc := "(II)I" } : MethodName)) ∈ WG := mo_wg (mo_t4 (List.mem_of_getElem? (i := 127) rfl)) rfl
theorem wd_4_128 : (Cond.code ({ cls := "BlockMeshModel", name := "template", desc := "(II)I" } : MethodName) prog_9_method_38_code (8 : Nat) (Option.some FieldType.int)) ∈ WG := mo_wg (mo_t4 (List.mem_of_getElem? (i := 128) rfl)) rfl
theorem wd_4_129 : (Cond.methodLink "BlockMeshLaw" (70 : Nat) ({ cls := "BlockMeshModel", name := "block", desc := "(II)I" } : MethodName)) ∈ WG := mo_wg (mo_t4 (List.mem_of_getElem? (i := 129) rfl)) rfl
theorem wd_4_130 : (Cond.instanceMethod ({ cls := "BlockMeshModel", name := "block", desc := "(II)I" } : MethodName)) ∈ WG := mo_wg (mo_t4 (List.mem_of_getElem? (i := 130) rfl)) rfl
theorem wd_4_131 : (Cond.selects "BlockMeshModel" ({ cls := "BlockMeshModel", name := "block", desc := "(II)I" } : MethodName) ({ cls := "BlockMeshModel", name := "block", desc := "(II)I" } : MethodName)) ∈ WG := mo_wg (mo_t4 (List.mem_of_getElem? (i := 131) rfl)) rfl
theorem wd_4_132 : (Cond.code ({ cls := "BlockMeshModel", name := "block", desc := "(II)I" } : MethodName) prog_9_method_40_code (4 : Nat) (Option.some FieldType.int)) ∈ WG := mo_wg (mo_t4 (List.mem_of_getElem? (i := 132) rfl)) rfl
theorem wd_4_137 : (Cond.methodLink "BlockMeshLaw" (74 : Nat) ({ cls := "BlockMeshModel", name := "order", desc := "(I)I" } : MethodName)) ∈ WG := mo_wg (mo_t4 (List.mem_of_getElem? (i := 137) rfl)) rfl
theorem wd_4_138 : (Cond.instanceMethod ({ cls := "BlockMeshModel", name := "order", desc := "(I)I" } : MethodName)) ∈ WG := mo_wg (mo_t4 (List.mem_of_getElem? (i := 138) rfl)) rfl
theorem wd_4_139 : (Cond.selects "BlockMeshModel" ({ cls := "BlockMeshModel", name := "order", desc := "(I)I" } : MethodName) ({ cls := "BlockMeshModel", name := "order", desc := "(I)I" } : MethodName)) ∈ WG := mo_wg (mo_t4 (List.mem_of_getElem? (i := 139) rfl)) rfl
theorem wd_4_140 : (Cond.code ({ cls := "BlockMeshModel", name := "order", desc := "(I)I" } : MethodName) prog_9_method_41_code (2 : Nat) (Option.some FieldType.int)) ∈ WG := mo_wg (mo_t4 (List.mem_of_getElem? (i := 140) rfl)) rfl
theorem wd_4_141 : (Cond.methodLink "BlockMeshLaw" (78 : Nat) ({ cls := "BlockMeshModel", name := "unspent", desc := "(II)I" } : MethodName)) ∈ WG := mo_wg (mo_t4 (List.mem_of_getElem? (i := 141) rfl)) rfl
theorem wd_4_142 : (Cond.instanceMethod ({ cls := "BlockMeshModel", name := "unspent", desc := "(II)I" } : MethodName)) ∈ WG := mo_wg (mo_t4 (List.mem_of_getElem? (i := 142) rfl)) rfl
theorem wd_4_143 : (Cond.selects "BlockMeshModel" ({ cls := "BlockMeshModel", name := "unspent", desc := "(II)I" } : MethodName) ({ cls := "BlockMeshModel", name := "unspent", desc := "(II)I" } : MethodName)) ∈ WG := mo_wg (mo_t4 (List.mem_of_getElem? (i := 143) rfl)) rfl
theorem wd_4_144 : (Cond.code ({ cls := "BlockMeshModel", name := "unspent", desc := "(II)I" } : MethodName) prog_9_method_42_code (5 : Nat) (Option.some FieldType.int)) ∈ WG := mo_wg (mo_t4 (List.mem_of_getElem? (i := 144) rfl)) rfl
theorem wd_4_145 : (Cond.methodLink "BlockMeshLaw" (82 : Nat) ({ cls := "BlockMeshModel", name := "pool", desc := "(I)I" } : MethodName)) ∈ WG := mo_wg (mo_t4 (List.mem_of_getElem? (i := 145) rfl)) rfl
theorem wd_4_146 : (Cond.instanceMethod ({ cls := "BlockMeshModel", name := "pool", desc := "(I)I" } : MethodName)) ∈ WG := mo_wg (mo_t4 (List.mem_of_getElem? (i := 146) rfl)) rfl
theorem wd_4_147 : (Cond.selects "BlockMeshModel" ({ cls := "BlockMeshModel", name := "pool", desc := "(I)I" } : MethodName) ({ cls := "BlockMeshModel", name := "pool", desc := "(I)I" } : MethodName)) ∈ WG := mo_wg (mo_t4 (List.mem_of_getElem? (i := 147) rfl)) rfl
theorem wd_4_148 : (Cond.code ({ cls := "BlockMeshModel", name := "pool", desc := "(I)I" } : MethodName) prog_9_method_43_code (2 : Nat) (Option.some FieldType.int)) ∈ WG := mo_wg (mo_t4 (List.mem_of_getElem? (i := 148) rfl)) rfl
theorem wd_4_149 : (Cond.methodLink "BlockMeshLaw" (86 : Nat) ({ cls := "BlockMeshModel", name := "wanted", desc := "(I)I" } : MethodName)) ∈ WG := mo_wg (mo_t4 (List.mem_of_getElem? (i := 149) rfl)) rfl
theorem wd_4_150 : (Cond.instanceMethod ({ cls := "BlockMeshModel", name := "wanted", desc := "(I)I" } : MethodName)) ∈ WG := mo_wg (mo_t4 (List.mem_of_getElem? (i := 150) rfl)) rfl
theorem wd_4_151 : (Cond.selects "BlockMeshModel" ({ cls := "BlockMeshModel", name := "wanted", desc := "(I)I" } : MethodName) ({ cls := "BlockMeshModel", name := "wanted", desc := "(I)I" } : MethodName)) ∈ WG := mo_wg (mo_t4 (List.mem_of_getElem? (i := 151) rfl)) rfl
theorem wd_4_152 : (Cond.code ({ cls := "BlockMeshModel", name := "wanted", desc := "(I)I" } : MethodName) prog_9_method_44_code (7 : Nat) (Option.some FieldType.int)) ∈ WG := mo_wg (mo_t4 (List.mem_of_getElem? (i := 152) rfl)) rfl
theorem wd_4_153 : (Cond.methodLink "BlockMeshLaw" (90 : Nat) ({ cls := "BlockMeshModel", name := "parentOf", desc := "(II)I" } : MethodName)) ∈ WG := mo_wg (mo_t4 (List.mem_of_getElem? (i := 153) rfl)) rfl
theorem wd_4_154 : (Cond.instanceMethod ({ cls := "BlockMeshModel", name := "parentOf", desc := "(II)I" } : MethodName)) ∈ WG := mo_wg (mo_t4 (List.mem_of_getElem? (i := 154) rfl)) rfl
theorem wd_4_155 : (Cond.selects "BlockMeshModel" ({ cls := "BlockMeshModel", name := "parentOf", desc := "(II)I" } : MethodName) ({ cls := "BlockMeshModel", name := "parentOf", desc := "(II)I" } : MethodName)) ∈ WG := mo_wg (mo_t4 (List.mem_of_getElem? (i := 155) rfl)) rfl
theorem wd_4_156 : (Cond.code ({ cls := "BlockMeshModel", name := "parentOf", desc := "(II)I" } : MethodName) prog_9_method_45_code (3 : Nat) (Option.some FieldType.int)) ∈ WG := mo_wg (mo_t4 (List.mem_of_getElem? (i := 156) rfl)) rfl
theorem wd_4_157 : (Cond.methodLink "BlockMeshLaw" (94 : Nat) ({ cls := "BlockMeshModel", name := "count", desc := "(I)I" } : MethodName)) ∈ WG := mo_wg (mo_t4 (List.mem_of_getElem? (i := 157) rfl)) rfl
theorem wd_4_158 : (Cond.instanceMethod ({ cls := "BlockMeshModel", name := "count", desc := "(I)I" } : MethodName)) ∈ WG := mo_wg (mo_t4 (List.mem_of_getElem? (i := 158) rfl)) rfl
theorem wd_4_159 : (Cond.selects "BlockMeshModel" ({ cls := "BlockMeshModel", name := "count", desc := "(I)I" } : MethodName) ({ cls := "BlockMeshModel", name := "count", desc := "(I)I" } : MethodName)) ∈ WG := mo_wg (mo_t4 (List.mem_of_getElem? (i := 159) rfl)) rfl
theorem wd_4_160 : (Cond.code ({ cls := "BlockMeshModel", name := "count", desc := "(I)I" } : MethodName) prog_9_method_46_code (4 : Nat) (Option.some FieldType.int)) ∈ WG := mo_wg (mo_t4 (List.mem_of_getElem? (i := 160) rfl)) rfl
theorem wd_4_161 : (Cond.methodLink "BlockMeshLaw" (98 : Nat) ({ cls := "BlockMeshModel", name := "total", desc := "()I" } : MethodName)) ∈ WG := mo_wg (mo_t4 (List.mem_of_getElem? (i := 161) rfl)) rfl
theorem wd_4_162 : (Cond.instanceMethod ({ cls := "BlockMeshModel", name := "total", desc := "()I" } : MethodName)) ∈ WG := mo_wg (mo_t4 (List.mem_of_getElem? (i := 162) rfl)) rfl
theorem wd_4_163 : (Cond.selects "BlockMeshModel" ({ cls := "BlockMeshModel", name := "total", desc := "()I" } : MethodName) ({ cls := "BlockMeshModel", name := "total", desc := "()I" } : MethodName)) ∈ WG := mo_wg (mo_t4 (List.mem_of_getElem? (i := 163) rfl)) rfl
theorem wd_4_164 : (Cond.code ({ cls := "BlockMeshModel", name := "total", desc := "()I" } : MethodName) prog_9_method_47_code (4 : Nat) (Option.some FieldType.int)) ∈ WG := mo_wg (mo_t4 (List.mem_of_getElem? (i := 164) rfl)) rfl
theorem kV_ln_21 {R : Room} {s : State} {args : Array Value} (hw : ∀ w ∈ WG, w.before args s = true) (hR : rm_bm_input.frames + 1 ≤ R.frames ∧ 8 + (5 + 11) + rm_bm_input.locals ≤ R.locals) : CallB R s args "BlockMeshLaw" 21 y_bm_input b_bm_input 5 (some .boolean) (Cond.code y_bm_input b_bm_input 5 (some .boolean) :: WG) rm_bm_input 0 0 3 ∧ (Cond.instanceMethod y_bm_input).before args s = true ∧ (Cond.selects "BlockMesh" y_bm_input y_bm_input).before args s = true :=
  ⟨callB_of 3 hw (mo_good wd_2_145) rfl rfl rfl (hw _ wd_1_1) (hw _ wd_2_142) (by decide +kernel) hR, hw _ wd_2_143, hw _ wd_2_144⟩
theorem kV_ln_25 {R : Room} {s : State} {args : Array Value} (hw : ∀ w ∈ WG, w.before args s = true) (hR : rm_mm_input.frames + 1 ≤ R.frames ∧ 8 + (7 + 11) + rm_mm_input.locals ≤ R.locals) : CallB R s args "BlockMeshLaw" 25 y_mm_input b_mm_input 7 (some .boolean) (Cond.code y_mm_input b_mm_input 7 (some .boolean) :: WG) rm_mm_input 0 0 3 ∧ (Cond.instanceMethod y_mm_input).before args s = true ∧ (Cond.selects "BlockMeshModel" y_mm_input y_mm_input).before args s = true :=
  ⟨callB_of 3 hw (mo_good wd_4_51) rfl rfl rfl (hw _ wd_1_12) (hw _ wd_4_48) (by decide +kernel) hR, hw _ wd_4_49, hw _ wd_4_50⟩
theorem kV_ln_26 {R : Room} {s : State} {args : Array Value} (hw : ∀ w ∈ WG, w.before args s = true) (hR : rm_bm_output.frames + 1 ≤ R.frames ∧ 8 + (3 + 11) + rm_bm_output.locals ≤ R.locals) : CallB R s args "BlockMeshLaw" 26 y_bm_output b_bm_output 3 (some .boolean) (Cond.code y_bm_output b_bm_output 3 (some .boolean) :: WG) rm_bm_output 0 0 2 ∧ (Cond.instanceMethod y_bm_output).before args s = true ∧ (Cond.selects "BlockMesh" y_bm_output y_bm_output).before args s = true :=
  ⟨callB_of 2 hw (mo_good wd_2_176) rfl rfl rfl (hw _ wd_1_1) (hw _ wd_2_173) (by decide +kernel) hR, hw _ wd_2_174, hw _ wd_2_175⟩
theorem kV_ln_30 {R : Room} {s : State} {args : Array Value} (hw : ∀ w ∈ WG, w.before args s = true) (hR : rm_mm_output.frames + 1 ≤ R.frames ∧ 8 + (4 + 11) + rm_mm_output.locals ≤ R.locals) : CallB R s args "BlockMeshLaw" 30 y_mm_output b_mm_output 4 (some .boolean) (Cond.code y_mm_output b_mm_output 4 (some .boolean) :: WG) rm_mm_output 0 0 2 ∧ (Cond.instanceMethod y_mm_output).before args s = true ∧ (Cond.selects "BlockMeshModel" y_mm_output y_mm_output).before args s = true :=
  ⟨callB_of 2 hw (mo_good wd_4_55) rfl rfl rfl (hw _ wd_1_12) (hw _ wd_4_52) (by decide +kernel) hR, hw _ wd_4_53, hw _ wd_4_54⟩
theorem kV_ln_31 {R : Room} {s : State} {args : Array Value} (hw : ∀ w ∈ WG, w.before args s = true) (hR : rm_bm_transaction.frames + 1 ≤ R.frames ∧ 8 + (1 + 11) + rm_bm_transaction.locals ≤ R.locals) : CallB R s args "BlockMeshLaw" 31 y_bm_transaction b_bm_transaction 1 (some .int) (Cond.code y_bm_transaction b_bm_transaction 1 (some .int) :: WG) rm_bm_transaction 0 0 0 ∧ (Cond.instanceMethod y_bm_transaction).before args s = true ∧ (Cond.selects "BlockMesh" y_bm_transaction y_bm_transaction).before args s = true :=
  ⟨callB_of 0 hw (mo_good wd_2_185) rfl rfl rfl (hw _ wd_1_1) (hw _ wd_2_182) (by decide +kernel) hR, hw _ wd_2_183, hw _ wd_2_184⟩
theorem kV_ln_35 {R : Room} {s : State} {args : Array Value} (hw : ∀ w ∈ WG, w.before args s = true) (hR : rm_mm_transaction.frames + 1 ≤ R.frames ∧ 8 + (5 + 11) + rm_mm_transaction.locals ≤ R.locals) : CallB R s args "BlockMeshLaw" 35 y_mm_transaction b_mm_transaction 5 (some .int) (Cond.code y_mm_transaction b_mm_transaction 5 (some .int) :: WG) rm_mm_transaction 0 0 0 ∧ (Cond.instanceMethod y_mm_transaction).before args s = true ∧ (Cond.selects "BlockMeshModel" y_mm_transaction y_mm_transaction).before args s = true :=
  ⟨callB_of 0 hw (mo_good wd_4_59) rfl rfl rfl (hw _ wd_1_12) (hw _ wd_4_56) (by decide +kernel) hR, hw _ wd_4_57, hw _ wd_4_58⟩
theorem kV_ln_36 {R : Room} {s : State} {args : Array Value} (hw : ∀ w ∈ WG, w.before args s = true) (hR : rm_bm_parent.frames + 1 ≤ R.frames ∧ 8 + (2 + 11) + rm_bm_parent.locals ≤ R.locals) : CallB R s args "BlockMeshLaw" 36 y_bm_parent b_bm_parent 2 (some .boolean) (Cond.code y_bm_parent b_bm_parent 2 (some .boolean) :: WG) rm_bm_parent 0 0 1 ∧ (Cond.instanceMethod y_bm_parent).before args s = true ∧ (Cond.selects "BlockMesh" y_bm_parent y_bm_parent).before args s = true :=
  ⟨callB_of 1 hw (mo_good wd_2_198) rfl rfl rfl (hw _ wd_1_1) (hw _ wd_2_195) (by decide +kernel) hR, hw _ wd_2_196, hw _ wd_2_197⟩
theorem kV_ln_40 {R : Room} {s : State} {args : Array Value} (hw : ∀ w ∈ WG, w.before args s = true) (hR : rm_mm_parent.frames + 1 ≤ R.frames ∧ 8 + (3 + 11) + rm_mm_parent.locals ≤ R.locals) : CallB R s args "BlockMeshLaw" 40 y_mm_parent b_mm_parent 3 (some .boolean) (Cond.code y_mm_parent b_mm_parent 3 (some .boolean) :: WG) rm_mm_parent 0 0 1 ∧ (Cond.instanceMethod y_mm_parent).before args s = true ∧ (Cond.selects "BlockMeshModel" y_mm_parent y_mm_parent).before args s = true :=
  ⟨callB_of 1 hw (mo_good wd_4_63) rfl rfl rfl (hw _ wd_1_12) (hw _ wd_4_60) (by decide +kernel) hR, hw _ wd_4_61, hw _ wd_4_62⟩
theorem kV_ln_41 {R : Room} {s : State} {args : Array Value} (hw : ∀ w ∈ WG, w.before args s = true) (hR : rm_bm_include.frames + 1 ≤ R.frames ∧ 8 + (2 + 11) + rm_bm_include.locals ≤ R.locals) : CallB R s args "BlockMeshLaw" 41 y_bm_include b_bm_include 2 (some .boolean) (Cond.code y_bm_include b_bm_include 2 (some .boolean) :: WG) rm_bm_include 0 0 1 ∧ (Cond.instanceMethod y_bm_include).before args s = true ∧ (Cond.selects "BlockMesh" y_bm_include y_bm_include).before args s = true :=
  ⟨callB_of 1 hw (mo_good wd_2_214) rfl rfl rfl (hw _ wd_1_1) (hw _ wd_2_211) (by decide +kernel) hR, hw _ wd_2_212, hw _ wd_2_213⟩
theorem kV_ln_44 {R : Room} {s : State} {args : Array Value} (hw : ∀ w ∈ WG, w.before args s = true) (hR : rm_mm_include.frames + 1 ≤ R.frames ∧ 8 + (3 + 11) + rm_mm_include.locals ≤ R.locals) : CallB R s args "BlockMeshLaw" 44 y_mm_include b_mm_include 3 (some .boolean) (Cond.code y_mm_include b_mm_include 3 (some .boolean) :: WG) rm_mm_include 0 0 1 ∧ (Cond.instanceMethod y_mm_include).before args s = true ∧ (Cond.selects "BlockMeshModel" y_mm_include y_mm_include).before args s = true :=
  ⟨callB_of 1 hw (mo_good wd_4_71) rfl rfl rfl (hw _ wd_1_12) (hw _ wd_4_68) (by decide +kernel) hR, hw _ wd_4_69, hw _ wd_4_70⟩
theorem kV_ln_45 {R : Room} {s : State} {args : Array Value} (hw : ∀ w ∈ WG, w.before args s = true) (hR : rm_bm_make.frames + 1 ≤ R.frames ∧ 8 + (4 + 11) + rm_bm_make.locals ≤ R.locals) : CallB R s args "BlockMeshLaw" 45 y_bm_make b_bm_make 4 (some .int) (Cond.code y_bm_make b_bm_make 4 (some .int) :: WG) rm_bm_make 0 0 2 ∧ (Cond.instanceMethod y_bm_make).before args s = true ∧ (Cond.selects "BlockMesh" y_bm_make y_bm_make).before args s = true :=
  ⟨callB_of 2 hw (mo_good wd_2_218) rfl rfl rfl (hw _ wd_1_1) (hw _ wd_2_215) (by decide +kernel) hR, hw _ wd_2_216, hw _ wd_2_217⟩
theorem kV_ln_49 {R : Room} {s : State} {args : Array Value} (hw : ∀ w ∈ WG, w.before args s = true) (hR : rm_mm_make.frames + 1 ≤ R.frames ∧ 8 + (4 + 11) + rm_mm_make.locals ≤ R.locals) : CallB R s args "BlockMeshLaw" 49 y_mm_make b_mm_make 4 (some .int) (Cond.code y_mm_make b_mm_make 4 (some .int) :: WG) rm_mm_make 0 0 2 ∧ (Cond.instanceMethod y_mm_make).before args s = true ∧ (Cond.selects "BlockMeshModel" y_mm_make y_mm_make).before args s = true :=
  ⟨callB_of 2 hw (mo_good wd_4_79) rfl rfl rfl (hw _ wd_1_12) (hw _ wd_4_76) (by decide +kernel) hR, hw _ wd_4_77, hw _ wd_4_78⟩
theorem kV_ln_50 {R : Room} {s : State} {args : Array Value} (hw : ∀ w ∈ WG, w.before args s = true) (hR : rm_bm_clear.frames + 1 ≤ R.frames ∧ 8 + (1 + 11) + rm_bm_clear.locals ≤ R.locals) : CallB R s args "BlockMeshLaw" 50 y_bm_clear b_bm_clear 1 none (Cond.code y_bm_clear b_bm_clear 1 none :: WG) rm_bm_clear 0 0 0 ∧ (Cond.instanceMethod y_bm_clear).before args s = true ∧ (Cond.selects "BlockMesh" y_bm_clear y_bm_clear).before args s = true :=
  ⟨callB_of 0 hw (mo_good wd_2_239) rfl rfl rfl (hw _ wd_1_1) (hw _ wd_2_236) (by decide +kernel) hR, hw _ wd_2_237, hw _ wd_2_238⟩
theorem kV_ln_53 {R : Room} {s : State} {args : Array Value} (hw : ∀ w ∈ WG, w.before args s = true) (hR : rm_mm_clear.frames + 1 ≤ R.frames ∧ 8 + (1 + 11) + rm_mm_clear.locals ≤ R.locals) : CallB R s args "BlockMeshLaw" 53 y_mm_clear b_mm_clear 1 none (Cond.code y_mm_clear b_mm_clear 1 none :: WG) rm_mm_clear 0 0 0 ∧ (Cond.instanceMethod y_mm_clear).before args s = true ∧ (Cond.selects "BlockMeshModel" y_mm_clear y_mm_clear).before args s = true :=
  ⟨callB_of 0 hw (mo_good wd_4_75) rfl rfl rfl (hw _ wd_1_12) (hw _ wd_4_72) (by decide +kernel) hR, hw _ wd_4_73, hw _ wd_4_74⟩
theorem kV_ln_54 {R : Room} {s : State} {args : Array Value} (hw : ∀ w ∈ WG, w.before args s = true) (hR : rm_bm_template.frames + 1 ≤ R.frames ∧ 8 + (7 + 11) + rm_bm_template.locals ≤ R.locals) : CallB R s args "BlockMeshLaw" 54 y_bm_template b_bm_template 7 (some .int) (Cond.code y_bm_template b_bm_template 7 (some .int) :: WG) rm_bm_template 0 0 2 ∧ (Cond.instanceMethod y_bm_template).before args s = true ∧ (Cond.selects "BlockMesh" y_bm_template y_bm_template).before args s = true :=
  ⟨callB_of 2 hw (mo_good wd_3_7) rfl rfl rfl (hw _ wd_1_1) (hw _ wd_3_4) (by decide +kernel) hR, hw _ wd_3_5, hw _ wd_3_6⟩
theorem kV_ln_57 {R : Room} {s : State} {args : Array Value} (hw : ∀ w ∈ WG, w.before args s = true) (hR : rm_mm_template.frames + 1 ≤ R.frames ∧ 8 + (8 + 11) + rm_mm_template.locals ≤ R.locals) : CallB R s args "BlockMeshLaw" 57 y_mm_template b_mm_template 8 (some .int) (Cond.code y_mm_template b_mm_template 8 (some .int) :: WG) rm_mm_template 0 0 2 ∧ (Cond.instanceMethod y_mm_template).before args s = true ∧ (Cond.selects "BlockMeshModel" y_mm_template y_mm_template).before args s = true :=
  ⟨callB_of 2 hw (mo_good wd_4_128) rfl rfl rfl (hw _ wd_1_12) (hw _ wd_4_125) (by decide +kernel) hR, hw _ wd_4_126, hw _ wd_4_127⟩
theorem kV_ln_58 {R : Room} {s : State} {args : Array Value} (hw : ∀ w ∈ WG, w.before args s = true) (hR : rm_bm_receive.frames + 1 ≤ R.frames ∧ 8 + (2 + 11) + rm_bm_receive.locals ≤ R.locals) : CallB R s args "BlockMeshLaw" 58 y_bm_receive b_bm_receive 2 (some .int) (Cond.code y_bm_receive b_bm_receive 2 (some .int) :: WG) rm_bm_receive 0 0 1 ∧ (Cond.instanceMethod y_bm_receive).before args s = true ∧ (Cond.selects "BlockMesh" y_bm_receive y_bm_receive).before args s = true :=
  ⟨callB_of 1 hw (mo_good wd_3_14) rfl rfl rfl (hw _ wd_1_1) (hw _ wd_3_11) (by decide +kernel) hR, hw _ wd_3_12, hw _ wd_3_13⟩
theorem kV_ln_62 {R : Room} {s : State} {args : Array Value} (hw : ∀ w ∈ WG, w.before args s = true) (hR : rm_mm_receive.frames + 1 ≤ R.frames ∧ 8 + (4 + 11) + rm_mm_receive.locals ≤ R.locals) : CallB R s args "BlockMeshLaw" 62 y_mm_receive b_mm_receive 4 (some .int) (Cond.code y_mm_receive b_mm_receive 4 (some .int) :: WG) rm_mm_receive 0 0 1 ∧ (Cond.instanceMethod y_mm_receive).before args s = true ∧ (Cond.selects "BlockMeshModel" y_mm_receive y_mm_receive).before args s = true :=
  ⟨callB_of 1 hw (mo_good wd_4_92) rfl rfl rfl (hw _ wd_1_12) (hw _ wd_4_89) (by decide +kernel) hR, hw _ wd_4_90, hw _ wd_4_91⟩
theorem kV_ln_63 {R : Room} {s : State} {args : Array Value} (hw : ∀ w ∈ WG, w.before args s = true) (hR : rm_bm_submit.frames + 1 ≤ R.frames ∧ 8 + (2 + 11) + rm_bm_submit.locals ≤ R.locals) : CallB R s args "BlockMeshLaw" 63 y_bm_submit b_bm_submit 2 (some .int) (Cond.code y_bm_submit b_bm_submit 2 (some .int) :: WG) rm_bm_submit 0 0 1 ∧ (Cond.instanceMethod y_bm_submit).before args s = true ∧ (Cond.selects "BlockMesh" y_bm_submit y_bm_submit).before args s = true :=
  ⟨callB_of 1 hw (mo_good wd_3_48) rfl rfl rfl (hw _ wd_1_1) (hw _ wd_3_45) (by decide +kernel) hR, hw _ wd_3_46, hw _ wd_3_47⟩
theorem kV_ln_66 {R : Room} {s : State} {args : Array Value} (hw : ∀ w ∈ WG, w.before args s = true) (hR : rm_mm_submit.frames + 1 ≤ R.frames ∧ 8 + (4 + 11) + rm_mm_submit.locals ≤ R.locals) : CallB R s args "BlockMeshLaw" 66 y_mm_submit b_mm_submit 4 (some .int) (Cond.code y_mm_submit b_mm_submit 4 (some .int) :: WG) rm_mm_submit 0 0 1 ∧ (Cond.instanceMethod y_mm_submit).before args s = true ∧ (Cond.selects "BlockMeshModel" y_mm_submit y_mm_submit).before args s = true :=
  ⟨callB_of 1 hw (mo_good wd_4_124) rfl rfl rfl (hw _ wd_1_12) (hw _ wd_4_121) (by decide +kernel) hR, hw _ wd_4_122, hw _ wd_4_123⟩
theorem kV_ln_67 {R : Room} {s : State} {args : Array Value} (hw : ∀ w ∈ WG, w.before args s = true) (hR : rm_bm_block.frames + 1 ≤ R.frames ∧ 8 + (3 + 11) + rm_bm_block.locals ≤ R.locals) : CallB R s args "BlockMeshLaw" 67 y_bm_block b_bm_block 3 (some .int) (Cond.code y_bm_block b_bm_block 3 (some .int) :: WG) rm_bm_block 0 0 2 ∧ (Cond.instanceMethod y_bm_block).before args s = true ∧ (Cond.selects "BlockMesh" y_bm_block y_bm_block).before args s = true :=
  ⟨callB_of 2 hw (mo_good wd_3_54) rfl rfl rfl (hw _ wd_1_1) (hw _ wd_3_51) (by decide +kernel) hR, hw _ wd_3_52, hw _ wd_3_53⟩
theorem kV_ln_70 {R : Room} {s : State} {args : Array Value} (hw : ∀ w ∈ WG, w.before args s = true) (hR : rm_mm_block.frames + 1 ≤ R.frames ∧ 8 + (4 + 11) + rm_mm_block.locals ≤ R.locals) : CallB R s args "BlockMeshLaw" 70 y_mm_block b_mm_block 4 (some .int) (Cond.code y_mm_block b_mm_block 4 (some .int) :: WG) rm_mm_block 0 0 2 ∧ (Cond.instanceMethod y_mm_block).before args s = true ∧ (Cond.selects "BlockMeshModel" y_mm_block y_mm_block).before args s = true :=
  ⟨callB_of 2 hw (mo_good wd_4_132) rfl rfl rfl (hw _ wd_1_12) (hw _ wd_4_129) (by decide +kernel) hR, hw _ wd_4_130, hw _ wd_4_131⟩
theorem kV_ln_71 {R : Room} {s : State} {args : Array Value} (hw : ∀ w ∈ WG, w.before args s = true) (hR : rm_bm_order.frames + 1 ≤ R.frames ∧ 8 + (2 + 11) + rm_bm_order.locals ≤ R.locals) : CallB R s args "BlockMeshLaw" 71 y_bm_order b_bm_order 2 (some .int) (Cond.code y_bm_order b_bm_order 2 (some .int) :: WG) rm_bm_order 0 0 1 ∧ (Cond.instanceMethod y_bm_order).before args s = true ∧ (Cond.selects "BlockMesh" y_bm_order y_bm_order).before args s = true :=
  ⟨callB_of 1 hw (mo_good wd_3_69) rfl rfl rfl (hw _ wd_1_1) (hw _ wd_3_66) (by decide +kernel) hR, hw _ wd_3_67, hw _ wd_3_68⟩
theorem kV_ln_74 {R : Room} {s : State} {args : Array Value} (hw : ∀ w ∈ WG, w.before args s = true) (hR : rm_mm_order.frames + 1 ≤ R.frames ∧ 8 + (2 + 11) + rm_mm_order.locals ≤ R.locals) : CallB R s args "BlockMeshLaw" 74 y_mm_order b_mm_order 2 (some .int) (Cond.code y_mm_order b_mm_order 2 (some .int) :: WG) rm_mm_order 0 0 1 ∧ (Cond.instanceMethod y_mm_order).before args s = true ∧ (Cond.selects "BlockMeshModel" y_mm_order y_mm_order).before args s = true :=
  ⟨callB_of 1 hw (mo_good wd_4_140) rfl rfl rfl (hw _ wd_1_12) (hw _ wd_4_137) (by decide +kernel) hR, hw _ wd_4_138, hw _ wd_4_139⟩
theorem kV_ln_75 {R : Room} {s : State} {args : Array Value} (hw : ∀ w ∈ WG, w.before args s = true) (hR : rm_bm_unspent.frames + 1 ≤ R.frames ∧ 8 + (4 + 11) + rm_bm_unspent.locals ≤ R.locals) : CallB R s args "BlockMeshLaw" 75 y_bm_unspent b_bm_unspent 4 (some .int) (Cond.code y_bm_unspent b_bm_unspent 4 (some .int) :: WG) rm_bm_unspent 0 0 2 ∧ (Cond.instanceMethod y_bm_unspent).before args s = true ∧ (Cond.selects "BlockMesh" y_bm_unspent y_bm_unspent).before args s = true :=
  ⟨callB_of 2 hw (mo_good wd_3_74) rfl rfl rfl (hw _ wd_1_1) (hw _ wd_3_71) (by decide +kernel) hR, hw _ wd_3_72, hw _ wd_3_73⟩
theorem kV_ln_78 {R : Room} {s : State} {args : Array Value} (hw : ∀ w ∈ WG, w.before args s = true) (hR : rm_mm_unspent.frames + 1 ≤ R.frames ∧ 8 + (5 + 11) + rm_mm_unspent.locals ≤ R.locals) : CallB R s args "BlockMeshLaw" 78 y_mm_unspent b_mm_unspent 5 (some .int) (Cond.code y_mm_unspent b_mm_unspent 5 (some .int) :: WG) rm_mm_unspent 0 0 2 ∧ (Cond.instanceMethod y_mm_unspent).before args s = true ∧ (Cond.selects "BlockMeshModel" y_mm_unspent y_mm_unspent).before args s = true :=
  ⟨callB_of 2 hw (mo_good wd_4_144) rfl rfl rfl (hw _ wd_1_12) (hw _ wd_4_141) (by decide +kernel) hR, hw _ wd_4_142, hw _ wd_4_143⟩
theorem kV_ln_79 {R : Room} {s : State} {args : Array Value} (hw : ∀ w ∈ WG, w.before args s = true) (hR : rm_bm_pool.frames + 1 ≤ R.frames ∧ 8 + (2 + 11) + rm_bm_pool.locals ≤ R.locals) : CallB R s args "BlockMeshLaw" 79 y_bm_pool b_bm_pool 2 (some .int) (Cond.code y_bm_pool b_bm_pool 2 (some .int) :: WG) rm_bm_pool 0 0 1 ∧ (Cond.instanceMethod y_bm_pool).before args s = true ∧ (Cond.selects "BlockMesh" y_bm_pool y_bm_pool).before args s = true :=
  ⟨callB_of 1 hw (mo_good wd_3_78) rfl rfl rfl (hw _ wd_1_1) (hw _ wd_3_75) (by decide +kernel) hR, hw _ wd_3_76, hw _ wd_3_77⟩
theorem kV_ln_82 {R : Room} {s : State} {args : Array Value} (hw : ∀ w ∈ WG, w.before args s = true) (hR : rm_mm_pool.frames + 1 ≤ R.frames ∧ 8 + (2 + 11) + rm_mm_pool.locals ≤ R.locals) : CallB R s args "BlockMeshLaw" 82 y_mm_pool b_mm_pool 2 (some .int) (Cond.code y_mm_pool b_mm_pool 2 (some .int) :: WG) rm_mm_pool 0 0 1 ∧ (Cond.instanceMethod y_mm_pool).before args s = true ∧ (Cond.selects "BlockMeshModel" y_mm_pool y_mm_pool).before args s = true :=
  ⟨callB_of 1 hw (mo_good wd_4_148) rfl rfl rfl (hw _ wd_1_12) (hw _ wd_4_145) (by decide +kernel) hR, hw _ wd_4_146, hw _ wd_4_147⟩
theorem kV_ln_83 {R : Room} {s : State} {args : Array Value} (hw : ∀ w ∈ WG, w.before args s = true) (hR : rm_bm_wanted.frames + 1 ≤ R.frames ∧ 8 + (6 + 11) + rm_bm_wanted.locals ≤ R.locals) : CallB R s args "BlockMeshLaw" 83 y_bm_wanted b_bm_wanted 6 (some .int) (Cond.code y_bm_wanted b_bm_wanted 6 (some .int) :: WG) rm_bm_wanted 0 0 1 ∧ (Cond.instanceMethod y_bm_wanted).before args s = true ∧ (Cond.selects "BlockMesh" y_bm_wanted y_bm_wanted).before args s = true :=
  ⟨callB_of 1 hw (mo_good wd_3_82) rfl rfl rfl (hw _ wd_1_1) (hw _ wd_3_79) (by decide +kernel) hR, hw _ wd_3_80, hw _ wd_3_81⟩
theorem kV_ln_86 {R : Room} {s : State} {args : Array Value} (hw : ∀ w ∈ WG, w.before args s = true) (hR : rm_mm_wanted.frames + 1 ≤ R.frames ∧ 8 + (7 + 11) + rm_mm_wanted.locals ≤ R.locals) : CallB R s args "BlockMeshLaw" 86 y_mm_wanted b_mm_wanted 7 (some .int) (Cond.code y_mm_wanted b_mm_wanted 7 (some .int) :: WG) rm_mm_wanted 0 0 1 ∧ (Cond.instanceMethod y_mm_wanted).before args s = true ∧ (Cond.selects "BlockMeshModel" y_mm_wanted y_mm_wanted).before args s = true :=
  ⟨callB_of 1 hw (mo_good wd_4_152) rfl rfl rfl (hw _ wd_1_12) (hw _ wd_4_149) (by decide +kernel) hR, hw _ wd_4_150, hw _ wd_4_151⟩
theorem kV_ln_87 {R : Room} {s : State} {args : Array Value} (hw : ∀ w ∈ WG, w.before args s = true) (hR : rm_bm_parentOf.frames + 1 ≤ R.frames ∧ 8 + (3 + 11) + rm_bm_parentOf.locals ≤ R.locals) : CallB R s args "BlockMeshLaw" 87 y_bm_parentOf b_bm_parentOf 3 (some .int) (Cond.code y_bm_parentOf b_bm_parentOf 3 (some .int) :: WG) rm_bm_parentOf 0 0 2 ∧ (Cond.instanceMethod y_bm_parentOf).before args s = true ∧ (Cond.selects "BlockMesh" y_bm_parentOf y_bm_parentOf).before args s = true :=
  ⟨callB_of 2 hw (mo_good wd_3_92) rfl rfl rfl (hw _ wd_1_1) (hw _ wd_3_89) (by decide +kernel) hR, hw _ wd_3_90, hw _ wd_3_91⟩
theorem kV_ln_90 {R : Room} {s : State} {args : Array Value} (hw : ∀ w ∈ WG, w.before args s = true) (hR : rm_mm_parentOf.frames + 1 ≤ R.frames ∧ 8 + (3 + 11) + rm_mm_parentOf.locals ≤ R.locals) : CallB R s args "BlockMeshLaw" 90 y_mm_parentOf b_mm_parentOf 3 (some .int) (Cond.code y_mm_parentOf b_mm_parentOf 3 (some .int) :: WG) rm_mm_parentOf 0 0 2 ∧ (Cond.instanceMethod y_mm_parentOf).before args s = true ∧ (Cond.selects "BlockMeshModel" y_mm_parentOf y_mm_parentOf).before args s = true :=
  ⟨callB_of 2 hw (mo_good wd_4_156) rfl rfl rfl (hw _ wd_1_12) (hw _ wd_4_153) (by decide +kernel) hR, hw _ wd_4_154, hw _ wd_4_155⟩
theorem kV_ln_91 {R : Room} {s : State} {args : Array Value} (hw : ∀ w ∈ WG, w.before args s = true) (hR : rm_bm_count.frames + 1 ≤ R.frames ∧ 8 + (2 + 11) + rm_bm_count.locals ≤ R.locals) : CallB R s args "BlockMeshLaw" 91 y_bm_count b_bm_count 2 (some .int) (Cond.code y_bm_count b_bm_count 2 (some .int) :: WG) rm_bm_count 0 0 1 ∧ (Cond.instanceMethod y_bm_count).before args s = true ∧ (Cond.selects "BlockMesh" y_bm_count y_bm_count).before args s = true :=
  ⟨callB_of 1 hw (mo_good wd_3_97) rfl rfl rfl (hw _ wd_1_1) (hw _ wd_3_94) (by decide +kernel) hR, hw _ wd_3_95, hw _ wd_3_96⟩
theorem kV_ln_94 {R : Room} {s : State} {args : Array Value} (hw : ∀ w ∈ WG, w.before args s = true) (hR : rm_mm_count.frames + 1 ≤ R.frames ∧ 8 + (4 + 11) + rm_mm_count.locals ≤ R.locals) : CallB R s args "BlockMeshLaw" 94 y_mm_count b_mm_count 4 (some .int) (Cond.code y_mm_count b_mm_count 4 (some .int) :: WG) rm_mm_count 0 0 1 ∧ (Cond.instanceMethod y_mm_count).before args s = true ∧ (Cond.selects "BlockMeshModel" y_mm_count y_mm_count).before args s = true :=
  ⟨callB_of 1 hw (mo_good wd_4_160) rfl rfl rfl (hw _ wd_1_12) (hw _ wd_4_157) (by decide +kernel) hR, hw _ wd_4_158, hw _ wd_4_159⟩
theorem kV_ln_95 {R : Room} {s : State} {args : Array Value} (hw : ∀ w ∈ WG, w.before args s = true) (hR : rm_bm_total.frames + 1 ≤ R.frames ∧ 8 + (1 + 11) + rm_bm_total.locals ≤ R.locals) : CallB R s args "BlockMeshLaw" 95 y_bm_total b_bm_total 1 (some .int) (Cond.code y_bm_total b_bm_total 1 (some .int) :: WG) rm_bm_total 0 0 0 ∧ (Cond.instanceMethod y_bm_total).before args s = true ∧ (Cond.selects "BlockMesh" y_bm_total y_bm_total).before args s = true :=
  ⟨callB_of 0 hw (mo_good wd_3_105) rfl rfl rfl (hw _ wd_1_1) (hw _ wd_3_102) (by decide +kernel) hR, hw _ wd_3_103, hw _ wd_3_104⟩
theorem kV_ln_98 {R : Room} {s : State} {args : Array Value} (hw : ∀ w ∈ WG, w.before args s = true) (hR : rm_mm_total.frames + 1 ≤ R.frames ∧ 8 + (4 + 11) + rm_mm_total.locals ≤ R.locals) : CallB R s args "BlockMeshLaw" 98 y_mm_total b_mm_total 4 (some .int) (Cond.code y_mm_total b_mm_total 4 (some .int) :: WG) rm_mm_total 0 0 0 ∧ (Cond.instanceMethod y_mm_total).before args s = true ∧ (Cond.selects "BlockMeshModel" y_mm_total y_mm_total).before args s = true :=
  ⟨callB_of 0 hw (mo_good wd_4_164) rfl rfl rfl (hw _ wd_1_12) (hw _ wd_4_161) (by decide +kernel) hR, hw _ wd_4_162, hw _ wd_4_163⟩
set_option maxHeartbeats 4000000 in
theorem c_ln_cell (l : Launch) (b Ls : Nat) (xs : Nat → Int32) (hLs : Ls ≤ 2049) : Met l y_ln_cell (Cond.code y_ln_cell b_ln_cell 2 (some .int) :: WG) rm_ln_cell (va_Pc [.ref b, .int 0] (fun U => va_X b Ls xs U U.heap ∧ b < U.heap.size)) (mo_Qr (some (.int (if 0 < Ls then xs 0 else 0)))) 0 0 (fun _ => False) := by
  refine mo_start (by decide) (Nat.le_of_ble_eq_true rfl) ?_
  intro p e s m args below meth c hx hb hr hlocks hml hown hw hv ls hl Q hQ
  obtain ⟨hX, hbl⟩ := hv
  have hl : lv_has ls 2 [(0, .ref b), (1, .int 0)] := hl
  have hS : va_S (fun _ => False) s.heap s.heap [] := va_S.rf
  refine lv_iload_n (pc := 0) hx hb d_ln_cell_0 rfl (lv_at hl 1 rfl) ?_
  refine lv_aload_n (pc := 1) hx hb d_ln_cell_1 rfl (lv_at hl 0 rfl) ?_
  refine va_slen (pc := 2) hx hb hX hbl id hS d_ln_cell_2 ?_
  refine lv_icmp_ge (pc := 3) (tgt := 12) hx hb d_ln_cell_3 rfl (fun h => ?_) (fun h => ?_)
  · have z : ¬ 0 < Ls := fun w => nI_ge (a := 0) w (by omega) h
    refine lv_iconst (pc := 12) (v := 0) hx hb d_ln_cell_12 (by decide) ?_
    exact mo_retIr hx hb hr hlocks hQ (by rw [if_neg z]) d_ln_cell_13
  · have z : 0 < Ls := Nat.pos_of_ne_zero (fun w => h (by rw [w]; decide))
    refine lv_aload_n (pc := 6) hx hb d_ln_cell_6 rfl (lv_at hl 0 rfl) ?_
    refine lv_iload_n (pc := 7) hx hb d_ln_cell_7 rfl (lv_at hl 1 rfl) ?_
    refine va_sld (pc := 8) hx hb hX hbl id hS (nI_in (c := 0) z (by omega)) d_ln_cell_8 ?_
    refine lv_goto (pc := 9) (tgt := 13) hx hb d_ln_cell_9 rfl ?_
    exact mo_retIr hx hb hr hlocks hQ (by rw [if_pos z]; rfl) d_ln_cell_13
theorem mo_cell {pr : Program} {l : Launch} {e : Env} {s : State} {m : MethodId} {below : List Frame} {meth : Method} {c : Code} {Q : State → Prop} {H : Heap} {locs : List Loc} {cells slots pc : Nat} {ls : Array Slot} {rest : List Value} {b Ls : Nat} {xs : Nat → Int32} {A : Nat → Prop} {v : Int32} (hx : pr.tables.exec = Jvm.exec) (hb : c.code = code) (hml : c.maxLocals = 4) (hown : s.vm.findClass "BlockMeshLaw" = some m.cls) (hw : ∀ w ∈ WG, w.before #[Value.ref b] s = true) (hX : va_X b Ls xs s s.heap) (hbl : b < s.heap.size) (hbA : ¬ A b) (hLs : Ls ≤ 2049) (hS : va_S A s.heap H locs) (hv : (if 0 < Ls then xs 0 else 0) = v) (hsz : ls.size = 4) (hW : Nat.ble (rest.map fun v => v.category).sum 8 = true) (hdg : decode code pc = .ok (.invokestatic 9, 3)) (hf : cells ≤ room_1.cells ∧ slots ≤ room_1.slots) (kk : W pr l e room_1 s m #[Value.ref b] below meth c H locs cells slots Q (F0 m (pc + 3) ls (.int v :: rest))) : W pr l e room_1 s m #[Value.ref b] below meth c H locs cells slots Q (F0 m pc ls (.int 0 :: .ref b :: rest)) := by
  subst hv
  exact mo_rd (W.runS (As := [.ref b, .int 0]) (rest := rest) (g := F0 m pc ls (.int 0 :: .ref b :: rest)) ⟨hx, hb, hml, hown, hw⟩ (c_ln_cell l b Ls xs hLs) ⟨callB_of 2 hw (mo_good wd_3_112) rfl rfl rfl (hw _ wd_1_0) (hw _ wd_3_110) (by decide +kernel) ⟨by decide, by decide⟩, hw _ wd_3_111⟩ ⟨fun a U g mk q => ⟨q.1, va_X.moved (u := U) (U := U.calling g mk a) (Vm.Alike.refl U.vm) q.2.1, q.2.2⟩, fun U hU hW => ⟨rfl, by rw [hU]; exact va_X.moved hW.alike (hX.kept (hS.2.1 b hbl hbA)), by rw [hU]; exact Nat.lt_of_lt_of_le hbl hS.1⟩⟩ rfl rfl hsz rfl (lv_room (Nat.le_of_ble_eq_true hW)) hdg hf) rfl kk
theorem la_arg {pr : Program} {l : Launch} {D : va_G} {cI cL cZ : ClassId} {j k a a2 : Nat} {v : Int32} {n : Int} {e : Env} {s : State} {m : MethodId} {below : List Frame} {meth : Method} {c : Code} {Q : State → Prop} {H : Heap} {locs : List Loc} {cells slots pc : Nat} {ls : Array Slot} {rest : List Value} {b Ls : Nat} {xs : Nat → Int32} {A : Nat → Prop} (hx : pr.tables.exec = Jvm.exec) (hb : c.code = code) (hml : c.maxLocals = 4) (hown : s.vm.findClass "BlockMeshLaw" = some m.cls) (hw : ∀ w ∈ WG, w.before #[Value.ref b] s = true) (hK : va_K D cl [(cI, .int), (cL, .long), (cZ, .boolean)] s) (hN : mo_N s) (hX : va_X b Ls xs s s.heap) (hbl : b < s.heap.size) (hbA : ¬ A b) (hk : nI j + v = nI (j + k)) (hj : j + k < Ls) (hLs : Ls ≤ 2049) (hl : lv_has ls 4 [(0, .ref b), (1, .ref a), (2, .ref a2), (3, .int (nI j))]) (hS : va_S A s.heap H locs) (hn : Int32.ofInt n = v) (d1 : decode code pc = .ok (.aload_n 0, 1)) (d2 : decode code (pc + 1) = .ok (.iload_n 3, 1)) (d3 : decode code (pc + 1 + 1) = .ok (.iconst n, 1)) (d4 : decode code (pc + 1 + 1 + 1) = .ok (.iadd, 1)) (d5 : decode code (pc + 1 + 1 + 1 + 1) = .ok (.iaload, 1)) (kk : W pr l e room_1 s m #[Value.ref b] below meth c H locs cells slots Q (F0 m (pc + 1 + 1 + 1 + 1 + 1) ls (.int (xs (j + k)) :: rest))) : W pr l e room_1 s m #[Value.ref b] below meth c H locs cells slots Q (F0 m pc ls rest) := by
  refine lv_aload_n hx hb d1 rfl (lv_at hl 0 rfl) ?_
  refine lv_iload_n hx hb d2 rfl (lv_at hl 3 rfl) ?_
  refine lv_iconst hx hb d3 hn ?_
  refine lv_iadd hx hb d4 ?_
  rw [hk]
  refine va_sld hx hb hX hbl hbA hS (nI_in hj (by omega)) d5 ?_
  rw [nI_clamp (by omega)]
  exact kk
theorem mo_nest_on {w : Cond} (h : mo_nest w = true) : w.onTables = true := by
  cases w <;> first | rfl | (simp [mo_nest] at h; done)
theorem law_K {s : State} {args : Array Value} (hw : ∀ w ∈ WG, w.before args s = true) : ∃ (D : va_G) (cI cL cZ : ClassId), va_K D cl [(cI, .int), (cL, .long), (cZ, .boolean)] s := by
  obtain ⟨c0, i0, h0⟩ := u_known (C := R_bm) (T := F_bm) (N := 9) (n := 9) hw in_bm (hw _ wd_1_14)
  obtain ⟨c1, i1, h1⟩ := u_known (C := R_bp) (T := F_bp) (N := 2) (n := 2) hw in_bp (hw _ wd_1_111)
  obtain ⟨c2, i2, h2⟩ := u_known (C := R_bl) (T := F_bl) (N := 7) (n := 7) hw in_bl (hw _ wd_1_72)
  obtain ⟨c3, i3, h3⟩ := u_known (C := R_dg) (T := F_dg) (N := 11) (n := 11) hw in_dg (hw _ wd_1_144)
  obtain ⟨c4, i4, h4⟩ := u_known (C := R_le) (T := F_le) (N := 4) (n := 4) hw in_le (hw _ wd_1_194)
  obtain ⟨c5, i5, h5⟩ := u_known (C := R_nu) (T := F_nu) (N := 2) (n := 2) hw in_nu (hw _ wd_1_117)
  obtain ⟨c6, i6, h6⟩ := u_known (C := R_tr) (T := F_tr) (N := 11) (n := 11) hw in_tr (hw _ wd_1_22)
  obtain ⟨c7, i7, h7⟩ := u_known (C := R_mm) (T := F_mm) (N := 33) (n := 33) hw in_mm (hw _ wd_3_114)
  obtain ⟨cI, kI, mI, aI, bI, dI⟩ := Cond.arrayClass_spec (hw _ wd_1_70)
  obtain ⟨cL, kL, mL, aL, bL, dL⟩ := Cond.arrayClass_spec (hw _ wd_1_190)
  obtain ⟨cZ, kZ, mZ, aZ, bZ, dZ⟩ := Cond.arrayClass_spec (hw _ wd_4_47)
  refine ⟨(fun k => if k = 0 then c0 else if k = 1 then c1 else if k = 2 then c2 else if k = 3 then c3 else if k = 4 then c4 else if k = 5 then c5 else if k = 6 then c6 else c7, fun k => if k = 0 then i0 else if k = 1 then i1 else if k = 2 then i2 else if k = 3 then i3 else if k = 4 then i4 else if k = 5 then i5 else if k = 6 then i6 else i7), cI, cL, cZ, fun k q hq => ?_, fun k q hq => ?_⟩
  · match k, hq with
    | 0, hq => cases hq; exact h0
    | 1, hq => cases hq; exact h1
    | 2, hq => cases hq; exact h2
    | 3, hq => cases hq; exact h3
    | 4, hq => cases hq; exact h4
    | 5, hq => cases hq; exact h5
    | 6, hq => cases hq; exact h6
    | 7, hq => cases hq; exact h7
    | k + 8, hq => exact absurd (show k + 8 < 8 from (List.getElem?_eq_some_iff.mp hq).1) (by omega)
  · match k, hq with
    | 0, hq => cases hq; exact ⟨fun n z => ⟨fun k h => (by cases h), kI, bI, mI, dI⟩, aI⟩
    | 1, hq => cases hq; exact ⟨fun n z => ⟨fun k h => (by cases h), kL, bL, mL, dL⟩, aL⟩
    | 2, hq => cases hq; exact ⟨fun n z => ⟨fun k h => (by cases h), kZ, bZ, mZ, dZ⟩, aZ⟩
    | k + 3, hq => exact absurd (show k + 3 < 3 from (List.getElem?_eq_some_iff.mp hq).1) (by omega)
