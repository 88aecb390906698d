theorem d_mm_transaction_155 : decode b_mm_transaction 155 = .ok (.iload_n 2, 1) := by decide +kernel
theorem d_mm_transaction_156 : decode b_mm_transaction 156 = .ok (.iload 4, 2) := by decide +kernel
theorem d_mm_transaction_158 : decode b_mm_transaction 158 = .ok (.bipush 100, 2) := by decide +kernel
theorem d_mm_transaction_160 : decode b_mm_transaction 160 = .ok (.if_icmp .ge 13, 3) := by decide +kernel
theorem d_mm_transaction_163 : decode b_mm_transaction 163 = .ok (.aload_n 0, 1) := by decide +kernel
theorem d_mm_transaction_164 : decode b_mm_transaction 164 = .ok (.getfield 31, 3) := by decide +kernel
theorem d_mm_transaction_167 : decode b_mm_transaction 167 = .ok (.iload 4, 2) := by decide +kernel
theorem d_mm_transaction_169 : decode b_mm_transaction 169 = .ok (.iaload, 1) := by decide +kernel
theorem d_mm_transaction_170 : decode b_mm_transaction 170 = .ok (.goto 13, 3) := by decide +kernel
theorem d_mm_transaction_173 : decode b_mm_transaction 173 = .ok (.aload_n 0, 1) := by decide +kernel
theorem d_mm_transaction_174 : decode b_mm_transaction 174 = .ok (.getfield 53, 3) := by decide +kernel
theorem d_mm_transaction_177 : decode b_mm_transaction 177 = .ok (.iload 4, 2) := by decide +kernel
theorem d_mm_transaction_179 : decode b_mm_transaction 179 = .ok (.bipush 100, 2) := by decide +kernel
theorem d_mm_transaction_181 : decode b_mm_transaction 181 = .ok (.isub, 1) := by decide +kernel
theorem d_mm_transaction_182 : decode b_mm_transaction 182 = .ok (.iaload, 1) := by decide +kernel
theorem d_mm_transaction_183 : decode b_mm_transaction 183 = .ok (.invokestatic 101, 3) := by decide +kernel
theorem d_mm_transaction_186 : decode b_mm_transaction 186 = .ok (.istore_n 2, 1) := by decide +kernel
theorem d_mm_transaction_187 : decode b_mm_transaction 187 = .ok (.iload_n 2, 1) := by decide +kernel
theorem d_mm_transaction_188 : decode b_mm_transaction 188 = .ok (.aload_n 0, 1) := by decide +kernel
theorem d_mm_transaction_189 : decode b_mm_transaction 189 = .ok (.getfield 19, 3) := by decide +kernel
theorem d_mm_transaction_192 : decode b_mm_transaction 192 = .ok (.bipush 80, 2) := by decide +kernel
theorem d_mm_transaction_194 : decode b_mm_transaction 194 = .ok (.iload_n 3, 1) := by decide +kernel
theorem d_mm_transaction_195 : decode b_mm_transaction 195 = .ok (.iadd, 1) := by decide +kernel
theorem d_mm_transaction_196 : decode b_mm_transaction 196 = .ok (.iaload, 1) := by decide +kernel
theorem d_mm_transaction_197 : decode b_mm_transaction 197 = .ok (.invokestatic 101, 3) := by decide +kernel
theorem d_mm_transaction_200 : decode b_mm_transaction 200 = .ok (.aload_n 0, 1) := by decide +kernel
theorem d_mm_transaction_201 : decode b_mm_transaction 201 = .ok (.getfield 22, 3) := by decide +kernel
theorem d_mm_transaction_204 : decode b_mm_transaction 204 = .ok (.bipush 80, 2) := by decide +kernel
theorem d_mm_transaction_206 : decode b_mm_transaction 206 = .ok (.iload_n 3, 1) := by decide +kernel
theorem d_mm_transaction_207 : decode b_mm_transaction 207 = .ok (.iadd, 1) := by decide +kernel
theorem d_mm_transaction_208 : decode b_mm_transaction 208 = .ok (.iaload, 1) := by decide +kernel
theorem d_mm_transaction_209 : decode b_mm_transaction 209 = .ok (.invokestatic 101, 3) := by decide +kernel
theorem d_mm_transaction_212 : decode b_mm_transaction 212 = .ok (.istore_n 2, 1) := by decide +kernel
theorem d_mm_transaction_213 : decode b_mm_transaction 213 = .ok (.iinc 3 1, 3) := by decide +kernel
theorem d_mm_transaction_216 : decode b_mm_transaction 216 = .ok (.goto (-139), 3) := by decide +kernel
theorem d_mm_transaction_219 : decode b_mm_transaction 219 = .ok (.iconst 0, 1) := by decide +kernel
theorem d_mm_transaction_220 : decode b_mm_transaction 220 = .ok (.istore_n 3, 1) := by decide +kernel
theorem d_mm_transaction_221 : decode b_mm_transaction 221 = .ok (.iload_n 3, 1) := by decide +kernel
theorem d_mm_transaction_222 : decode b_mm_transaction 222 = .ok (.aload_n 0, 1) := by decide +kernel
theorem d_mm_transaction_223 : decode b_mm_transaction 223 = .ok (.getfield 13, 3) := by decide +kernel
theorem d_mm_transaction_226 : decode b_mm_transaction 226 = .ok (.iload_n 1, 1) := by decide +kernel
theorem d_mm_transaction_227 : decode b_mm_transaction 227 = .ok (.iaload, 1) := by decide +kernel
theorem d_mm_transaction_228 : decode b_mm_transaction 228 = .ok (.if_icmp .ge 73, 3) := by decide +kernel
theorem d_mm_transaction_231 : decode b_mm_transaction 231 = .ok (.aload_n 0, 1) := by decide +kernel
theorem d_mm_transaction_232 : decode b_mm_transaction 232 = .ok (.getfield 25, 3) := by decide +kernel
theorem d_mm_transaction_235 : decode b_mm_transaction 235 = .ok (.iconst 2, 1) := by decide +kernel
theorem d_mm_transaction_236 : decode b_mm_transaction 236 = .ok (.iload_n 1, 1) := by decide +kernel
theorem d_mm_transaction_237 : decode b_mm_transaction 237 = .ok (.imul, 1) := by decide +kernel
theorem d_mm_transaction_238 : decode b_mm_transaction 238 = .ok (.iload_n 3, 1) := by decide +kernel
theorem d_mm_transaction_239 : decode b_mm_transaction 239 = .ok (.iadd, 1) := by decide +kernel
theorem d_mm_transaction_240 : decode b_mm_transaction 240 = .ok (.aload_n 0, 1) := by decide +kernel
theorem d_mm_transaction_241 : decode b_mm_transaction 241 = .ok (.getfield 25, 3) := by decide +kernel
theorem d_mm_transaction_244 : decode b_mm_transaction 244 = .ok (.bipush 80, 2) := by decide +kernel
theorem d_mm_transaction_246 : decode b_mm_transaction 246 = .ok (.iload_n 3, 1) := by decide +kernel
theorem d_mm_transaction_247 : decode b_mm_transaction 247 = .ok (.iadd, 1) := by decide +kernel
theorem d_mm_transaction_248 : decode b_mm_transaction 248 = .ok (.iaload, 1) := by decide +kernel
theorem d_mm_transaction_249 : decode b_mm_transaction 249 = .ok (.iastore, 1) := by decide +kernel
theorem d_mm_transaction_250 : decode b_mm_transaction 250 = .ok (.aload_n 0, 1) := by decide +kernel
theorem d_mm_transaction_251 : decode b_mm_transaction 251 = .ok (.getfield 28, 3) := by decide +kernel
theorem d_mm_transaction_254 : decode b_mm_transaction 254 = .ok (.iconst 2, 1) := by decide +kernel
theorem d_mm_transaction_255 : decode b_mm_transaction 255 = .ok (.iload_n 1, 1) := by decide +kernel
theorem d_mm_transaction_256 : decode b_mm_transaction 256 = .ok (.imul, 1) := by decide +kernel
theorem d_mm_transaction_257 : decode b_mm_transaction 257 = .ok (.iload_n 3, 1) := by decide +kernel
theorem d_mm_transaction_258 : decode b_mm_transaction 258 = .ok (.iadd, 1) := by decide +kernel
theorem d_mm_transaction_259 : decode b_mm_transaction 259 = .ok (.aload_n 0, 1) := by decide +kernel
theorem d_mm_transaction_260 : decode b_mm_transaction 260 = .ok (.getfield 28, 3) := by decide +kernel
theorem d_mm_transaction_263 : decode b_mm_transaction 263 = .ok (.bipush 80, 2) := by decide +kernel
theorem d_mm_transaction_265 : decode b_mm_transaction 265 = .ok (.iload_n 3, 1) := by decide +kernel
theorem d_mm_transaction_266 : decode b_mm_transaction 266 = .ok (.iadd, 1) := by decide +kernel
theorem d_mm_transaction_267 : decode b_mm_transaction 267 = .ok (.iaload, 1) := by decide +kernel
theorem d_mm_transaction_268 : decode b_mm_transaction 268 = .ok (.iastore, 1) := by decide +kernel
theorem d_mm_transaction_269 : decode b_mm_transaction 269 = .ok (.iload_n 2, 1) := by decide +kernel
theorem d_mm_transaction_270 : decode b_mm_transaction 270 = .ok (.aload_n 0, 1) := by decide +kernel
theorem d_mm_transaction_271 : decode b_mm_transaction 271 = .ok (.getfield 25, 3) := by decide +kernel
theorem d_mm_transaction_274 : decode b_mm_transaction 274 = .ok (.bipush 80, 2) := by decide +kernel
theorem d_mm_transaction_276 : decode b_mm_transaction 276 = .ok (.iload_n 3, 1) := by decide +kernel
theorem d_mm_transaction_277 : decode b_mm_transaction 277 = .ok (.iadd, 1) := by decide +kernel
theorem d_mm_transaction_278 : decode b_mm_transaction 278 = .ok (.iaload, 1) := by decide +kernel
theorem d_mm_transaction_279 : decode b_mm_transaction 279 = .ok (.invokestatic 101, 3) := by decide +kernel
theorem d_mm_transaction_282 : decode b_mm_transaction 282 = .ok (.aload_n 0, 1) := by decide +kernel
theorem d_mm_transaction_283 : decode b_mm_transaction 283 = .ok (.getfield 28, 3) := by decide +kernel
theorem d_mm_transaction_286 : decode b_mm_transaction 286 = .ok (.bipush 80, 2) := by decide +kernel
theorem d_mm_transaction_288 : decode b_mm_transaction 288 = .ok (.iload_n 3, 1) := by decide +kernel
theorem d_mm_transaction_289 : decode b_mm_transaction 289 = .ok (.iadd, 1) := by decide +kernel
theorem d_mm_transaction_290 : decode b_mm_transaction 290 = .ok (.iaload, 1) := by decide +kernel
theorem d_mm_transaction_291 : decode b_mm_transaction 291 = .ok (.invokestatic 101, 3) := by decide +kernel
theorem d_mm_transaction_294 : decode b_mm_transaction 294 = .ok (.istore_n 2, 1) := by decide +kernel
theorem d_mm_transaction_295 : decode b_mm_transaction 295 = .ok (.iinc 3 1, 3) := by decide +kernel
theorem d_mm_transaction_298 : decode b_mm_transaction 298 = .ok (.goto (-77), 3) := by decide +kernel
theorem d_mm_transaction_301 : decode b_mm_transaction 301 = .ok (.aload_n 0, 1) := by decide +kernel
theorem d_mm_transaction_302 : decode b_mm_transaction 302 = .ok (.getfield 31, 3) := by decide +kernel
theorem d_mm_transaction_305 : decode b_mm_transaction 305 = .ok (.iload_n 1, 1) := by decide +kernel
theorem d_mm_transaction_306 : decode b_mm_transaction 306 = .ok (.iload_n 2, 1) := by decide +kernel
theorem d_mm_transaction_307 : decode b_mm_transaction 307 = .ok (.iastore, 1) := by decide +kernel
theorem d_mm_transaction_308 : decode b_mm_transaction 308 = .ok (.aload_n 0, 1) := by decide +kernel
theorem d_mm_transaction_309 : decode b_mm_transaction 309 = .ok (.getfield 7, 3) := by decide +kernel
theorem d_mm_transaction_312 : decode b_mm_transaction 312 = .ok (.bipush 40, 2) := by decide +kernel
theorem d_mm_transaction_314 : decode b_mm_transaction 314 = .ok (.iconst 0, 1) := by decide +kernel
theorem d_mm_transaction_315 : decode b_mm_transaction 315 = .ok (.iastore, 1) := by decide +kernel
theorem d_mm_transaction_316 : decode b_mm_transaction 316 = .ok (.aload_n 0, 1) := by decide +kernel
theorem d_mm_transaction_317 : decode b_mm_transaction 317 = .ok (.getfield 13, 3) := by decide +kernel
theorem d_mm_transaction_320 : decode b_mm_transaction 320 = .ok (.bipush 40, 2) := by decide +kernel
theorem d_mm_transaction_322 : decode b_mm_transaction 322 = .ok (.iconst 0, 1) := by decide +kernel
theorem d_mm_transaction_323 : decode b_mm_transaction 323 = .ok (.iastore, 1) := by decide +kernel
theorem d_mm_transaction_324 : decode b_mm_transaction 324 = .ok (.iload_n 1, 1) := by decide +kernel
theorem d_mm_transaction_325 : decode b_mm_transaction 325 = .ok (.ireturn, 1) := by decide +kernel
theorem d_mm_parent_0 : decode b_mm_parent 0 = .ok (.aload_n 0, 1) := by decide +kernel
theorem d_mm_parent_1 : decode b_mm_parent 1 = .ok (.iload_n 1, 1) := by decide +kernel
theorem d_mm_parent_2 : decode b_mm_parent 2 = .ok (.invokevirtual 113, 3) := by decide +kernel
theorem d_mm_parent_5 : decode b_mm_parent 5 = .ok (.ifCond .eq 14, 3) := by decide +kernel
theorem d_mm_parent_8 : decode b_mm_parent 8 = .ok (.aload_n 0, 1) := by decide +kernel
theorem d_mm_parent_9 : decode b_mm_parent 9 = .ok (.getfield 38, 3) := by decide +kernel
theorem d_mm_parent_12 : decode b_mm_parent 12 = .ok (.bipush 60, 2) := by decide +kernel
theorem d_mm_parent_14 : decode b_mm_parent 14 = .ok (.iaload, 1) := by decide +kernel
theorem d_mm_parent_15 : decode b_mm_parent 15 = .ok (.iconst 4, 1) := by decide +kernel
theorem d_mm_parent_16 : decode b_mm_parent 16 = .ok (.if_icmp .ne 5, 3) := by decide +kernel
theorem d_mm_parent_19 : decode b_mm_parent 19 = .ok (.iconst 0, 1) := by decide +kernel
theorem d_mm_parent_20 : decode b_mm_parent 20 = .ok (.ireturn, 1) := by decide +kernel
theorem d_mm_parent_21 : decode b_mm_parent 21 = .ok (.iconst 0, 1) := by decide +kernel
theorem d_mm_parent_22 : decode b_mm_parent 22 = .ok (.istore_n 2, 1) := by decide +kernel
theorem d_mm_parent_23 : decode b_mm_parent 23 = .ok (.iload_n 2, 1) := by decide +kernel
theorem d_mm_parent_24 : decode b_mm_parent 24 = .ok (.aload_n 0, 1) := by decide +kernel
theorem d_mm_parent_25 : decode b_mm_parent 25 = .ok (.getfield 38, 3) := by decide +kernel
theorem d_mm_parent_28 : decode b_mm_parent 28 = .ok (.bipush 60, 2) := by decide +kernel
theorem d_mm_parent_30 : decode b_mm_parent 30 = .ok (.iaload, 1) := by decide +kernel
theorem d_mm_parent_31 : decode b_mm_parent 31 = .ok (.if_icmp .ge 25, 3) := by decide +kernel
theorem d_mm_parent_34 : decode b_mm_parent 34 = .ok (.aload_n 0, 1) := by decide +kernel
theorem d_mm_parent_35 : decode b_mm_parent 35 = .ok (.getfield 41, 3) := by decide +kernel
theorem d_mm_parent_38 : decode b_mm_parent 38 = .ok (.sipush 240, 3) := by decide +kernel
theorem d_mm_parent_41 : decode b_mm_parent 41 = .ok (.iload_n 2, 1) := by decide +kernel
theorem d_mm_parent_42 : decode b_mm_parent 42 = .ok (.iadd, 1) := by decide +kernel
theorem d_mm_parent_43 : decode b_mm_parent 43 = .ok (.iaload, 1) := by decide +kernel
theorem d_mm_parent_44 : decode b_mm_parent 44 = .ok (.iload_n 1, 1) := by decide +kernel
theorem d_mm_parent_45 : decode b_mm_parent 45 = .ok (.if_icmp .ne 5, 3) := by decide +kernel
theorem d_mm_parent_48 : decode b_mm_parent 48 = .ok (.iconst 0, 1) := by decide +kernel
theorem d_mm_parent_49 : decode b_mm_parent 49 = .ok (.ireturn, 1) := by decide +kernel
theorem d_mm_parent_50 : decode b_mm_parent 50 = .ok (.iinc 2 1, 3) := by decide +kernel
theorem d_mm_parent_53 : decode b_mm_parent 53 = .ok (.goto (-30), 3) := by decide +kernel
theorem d_mm_parent_56 : decode b_mm_parent 56 = .ok (.aload_n 0, 1) := by decide +kernel
theorem d_mm_parent_57 : decode b_mm_parent 57 = .ok (.getfield 41, 3) := by decide +kernel
theorem d_mm_parent_60 : decode b_mm_parent 60 = .ok (.sipush 240, 3) := by decide +kernel
theorem d_mm_parent_63 : decode b_mm_parent 63 = .ok (.aload_n 0, 1) := by decide +kernel
theorem d_mm_parent_64 : decode b_mm_parent 64 = .ok (.getfield 38, 3) := by decide +kernel
theorem d_mm_parent_67 : decode b_mm_parent 67 = .ok (.bipush 60, 2) := by decide +kernel
theorem d_mm_parent_69 : decode b_mm_parent 69 = .ok (.iaload, 1) := by decide +kernel
theorem d_mm_parent_70 : decode b_mm_parent 70 = .ok (.iadd, 1) := by decide +kernel
theorem d_mm_parent_71 : decode b_mm_parent 71 = .ok (.iload_n 1, 1) := by decide +kernel
theorem d_mm_parent_72 : decode b_mm_parent 72 = .ok (.iastore, 1) := by decide +kernel
theorem d_mm_parent_73 : decode b_mm_parent 73 = .ok (.aload_n 0, 1) := by decide +kernel
theorem d_mm_parent_74 : decode b_mm_parent 74 = .ok (.getfield 38, 3) := by decide +kernel
theorem d_mm_parent_77 : decode b_mm_parent 77 = .ok (.bipush 60, 2) := by decide +kernel
theorem d_mm_parent_79 : decode b_mm_parent 79 = .ok (.dup2, 1) := by decide +kernel
theorem d_mm_parent_80 : decode b_mm_parent 80 = .ok (.iaload, 1) := by decide +kernel
theorem d_mm_parent_81 : decode b_mm_parent 81 = .ok (.iconst 1, 1) := by decide +kernel
theorem d_mm_parent_82 : decode b_mm_parent 82 = .ok (.iadd, 1) := by decide +kernel
theorem d_mm_parent_83 : decode b_mm_parent 83 = .ok (.iastore, 1) := by decide +kernel
theorem d_mm_parent_84 : decode b_mm_parent 84 = .ok (.iconst 1, 1) := by decide +kernel
theorem d_mm_parent_85 : decode b_mm_parent 85 = .ok (.ireturn, 1) := by decide +kernel
theorem d_mm_include_0 : decode b_mm_include 0 = .ok (.iload_n 1, 1) := by decide +kernel
theorem d_mm_include_1 : decode b_mm_include 1 = .ok (.ifCond .lt 22, 3) := by decide +kernel
theorem d_mm_include_4 : decode b_mm_include 4 = .ok (.iload_n 1, 1) := by decide +kernel
theorem d_mm_include_5 : decode b_mm_include 5 = .ok (.aload_n 0, 1) := by decide +kernel
theorem d_mm_include_6 : decode b_mm_include 6 = .ok (.getfield 110, 3) := by decide +kernel
theorem d_mm_include_9 : decode b_mm_include 9 = .ok (.if_icmp .ge 14, 3) := by decide +kernel
theorem d_mm_include_12 : decode b_mm_include 12 = .ok (.aload_n 0, 1) := by decide +kernel
theorem d_mm_include_13 : decode b_mm_include 13 = .ok (.getfield 44, 3) := by decide +kernel
theorem d_mm_include_16 : decode b_mm_include 16 = .ok (.bipush 60, 2) := by decide +kernel
theorem d_mm_include_18 : decode b_mm_include 18 = .ok (.iaload, 1) := by decide +kernel
theorem d_mm_include_19 : decode b_mm_include 19 = .ok (.iconst 3, 1) := by decide +kernel
theorem d_mm_include_20 : decode b_mm_include 20 = .ok (.if_icmp .ne 5, 3) := by decide +kernel
theorem d_mm_include_23 : decode b_mm_include 23 = .ok (.iconst 0, 1) := by decide +kernel
theorem d_mm_include_24 : decode b_mm_include 24 = .ok (.ireturn, 1) := by decide +kernel
theorem d_mm_include_25 : decode b_mm_include 25 = .ok (.iconst 0, 1) := by decide +kernel
theorem d_mm_include_26 : decode b_mm_include 26 = .ok (.istore_n 2, 1) := by decide +kernel
theorem d_mm_include_27 : decode b_mm_include 27 = .ok (.iload_n 2, 1) := by decide +kernel
theorem d_mm_include_28 : decode b_mm_include 28 = .ok (.aload_n 0, 1) := by decide +kernel
theorem d_mm_include_29 : decode b_mm_include 29 = .ok (.getfield 44, 3) := by decide +kernel
theorem d_mm_include_32 : decode b_mm_include 32 = .ok (.bipush 60, 2) := by decide +kernel
theorem d_mm_include_34 : decode b_mm_include 34 = .ok (.iaload, 1) := by decide +kernel
theorem d_mm_include_35 : decode b_mm_include 35 = .ok (.if_icmp .ge 25, 3) := by decide +kernel
theorem d_mm_include_38 : decode b_mm_include 38 = .ok (.aload_n 0, 1) := by decide +kernel
theorem d_mm_include_39 : decode b_mm_include 39 = .ok (.getfield 47, 3) := by decide +kernel
theorem d_mm_include_42 : decode b_mm_include 42 = .ok (.sipush 180, 3) := by decide +kernel
theorem d_mm_include_45 : decode b_mm_include 45 = .ok (.iload_n 2, 1) := by decide +kernel
theorem d_mm_include_46 : decode b_mm_include 46 = .ok (.iadd, 1) := by decide +kernel
theorem d_mm_include_47 : decode b_mm_include 47 = .ok (.iaload, 1) := by decide +kernel
theorem d_mm_include_48 : decode b_mm_include 48 = .ok (.iload_n 1, 1) := by decide +kernel
theorem d_mm_include_49 : decode b_mm_include 49 = .ok (.if_icmp .ne 5, 3) := by decide +kernel
theorem d_mm_include_52 : decode b_mm_include 52 = .ok (.iconst 0, 1) := by decide +kernel
theorem d_mm_include_53 : decode b_mm_include 53 = .ok (.ireturn, 1) := by decide +kernel
theorem d_mm_include_54 : decode b_mm_include 54 = .ok (.iinc 2 1, 3) := by decide +kernel
theorem d_mm_include_57 : decode b_mm_include 57 = .ok (.goto (-30), 3) := by decide +kernel
theorem d_mm_include_60 : decode b_mm_include 60 = .ok (.aload_n 0, 1) := by decide +kernel
theorem d_mm_include_61 : decode b_mm_include 61 = .ok (.getfield 47, 3) := by decide +kernel
theorem d_mm_include_64 : decode b_mm_include 64 = .ok (.sipush 180, 3) := by decide +kernel
theorem d_mm_include_67 : decode b_mm_include 67 = .ok (.aload_n 0, 1) := by decide +kernel
theorem d_mm_include_68 : decode b_mm_include 68 = .ok (.getfield 44, 3) := by decide +kernel
theorem d_mm_include_71 : decode b_mm_include 71 = .ok (.bipush 60, 2) := by decide +kernel
theorem d_mm_include_73 : decode b_mm_include 73 = .ok (.iaload, 1) := by decide +kernel
theorem d_mm_include_74 : decode b_mm_include 74 = .ok (.iadd, 1) := by decide +kernel
theorem d_mm_include_75 : decode b_mm_include 75 = .ok (.iload_n 1, 1) := by decide +kernel
theorem d_mm_include_76 : decode b_mm_include 76 = .ok (.iastore, 1) := by decide +kernel
theorem d_mm_include_77 : decode b_mm_include 77 = .ok (.aload_n 0, 1) := by decide +kernel
theorem d_mm_include_78 : decode b_mm_include 78 = .ok (.getfield 44, 3) := by decide +kernel
theorem d_mm_include_81 : decode b_mm_include 81 = .ok (.bipush 60, 2) := by decide +kernel
theorem d_mm_include_83 : decode b_mm_include 83 = .ok (.dup2, 1) := by decide +kernel
theorem d_mm_include_84 : decode b_mm_include 84 = .ok (.iaload, 1) := by decide +kernel
theorem d_mm_include_85 : decode b_mm_include 85 = .ok (.iconst 1, 1) := by decide +kernel
theorem d_mm_include_86 : decode b_mm_include 86 = .ok (.iadd, 1) := by decide +kernel
theorem d_mm_include_87 : decode b_mm_include 87 = .ok (.iastore, 1) := by decide +kernel
theorem d_mm_include_88 : decode b_mm_include 88 = .ok (.iconst 1, 1) := by decide +kernel
theorem d_mm_include_89 : decode b_mm_include 89 = .ok (.ireturn, 1) := by decide +kernel
theorem d_mm_clear_0 : decode b_mm_clear 0 = .ok (.aload_n 0, 1) := by decide +kernel
theorem d_mm_clear_1 : decode b_mm_clear 1 = .ok (.getfield 7, 3) := by decide +kernel
theorem d_mm_clear_4 : decode b_mm_clear 4 = .ok (.bipush 40, 2) := by decide +kernel
theorem d_mm_clear_6 : decode b_mm_clear 6 = .ok (.iconst 0, 1) := by decide +kernel
theorem d_mm_clear_7 : decode b_mm_clear 7 = .ok (.iastore, 1) := by decide +kernel
theorem d_mm_clear_8 : decode b_mm_clear 8 = .ok (.aload_n 0, 1) := by decide +kernel
theorem d_mm_clear_9 : decode b_mm_clear 9 = .ok (.getfield 13, 3) := by decide +kernel
theorem d_mm_clear_12 : decode b_mm_clear 12 = .ok (.bipush 40, 2) := by decide +kernel
theorem d_mm_clear_14 : decode b_mm_clear 14 = .ok (.iconst 0, 1) := by decide +kernel
theorem d_mm_clear_15 : decode b_mm_clear 15 = .ok (.iastore, 1) := by decide +kernel
theorem d_mm_clear_16 : decode b_mm_clear 16 = .ok (.aload_n 0, 1) := by decide +kernel
theorem d_mm_clear_17 : decode b_mm_clear 17 = .ok (.getfield 38, 3) := by decide +kernel
theorem d_mm_clear_20 : decode b_mm_clear 20 = .ok (.bipush 60, 2) := by decide +kernel
theorem d_mm_clear_22 : decode b_mm_clear 22 = .ok (.iconst 0, 1) := by decide +kernel
theorem d_mm_clear_23 : decode b_mm_clear 23 = .ok (.iastore, 1) := by decide +kernel
theorem d_mm_clear_24 : decode b_mm_clear 24 = .ok (.aload_n 0, 1) := by decide +kernel
theorem d_mm_clear_25 : decode b_mm_clear 25 = .ok (.getfield 44, 3) := by decide +kernel
theorem d_mm_clear_28 : decode b_mm_clear 28 = .ok (.bipush 60, 2) := by decide +kernel
theorem d_mm_clear_30 : decode b_mm_clear 30 = .ok (.iconst 0, 1) := by decide +kernel
theorem d_mm_clear_31 : decode b_mm_clear 31 = .ok (.iastore, 1) := by decide +kernel
theorem d_mm_clear_32 : decode b_mm_clear 32 = .ok (.return_, 1) := by decide +kernel
theorem d_mm_hashOf_0 : decode b_mm_hashOf 0 = .ok (.bipush 13, 2) := by decide +kernel
theorem d_mm_hashOf_2 : decode b_mm_hashOf 2 = .ok (.istore_n 3, 1) := by decide +kernel
theorem d_mm_hashOf_3 : decode b_mm_hashOf 3 = .ok (.iconst 0, 1) := by decide +kernel
theorem d_mm_hashOf_4 : decode b_mm_hashOf 4 = .ok (.istore 4, 2) := by decide +kernel
theorem d_mm_hashOf_6 : decode b_mm_hashOf 6 = .ok (.iload 4, 2) := by decide +kernel
theorem d_mm_hashOf_8 : decode b_mm_hashOf 8 = .ok (.aload_n 0, 1) := by decide +kernel
theorem d_mm_hashOf_9 : decode b_mm_hashOf 9 = .ok (.getfield 38, 3) := by decide +kernel
theorem d_mm_hashOf_12 : decode b_mm_hashOf 12 = .ok (.iload_n 1, 1) := by decide +kernel
theorem d_mm_hashOf_13 : decode b_mm_hashOf 13 = .ok (.iaload, 1) := by decide +kernel
theorem d_mm_hashOf_14 : decode b_mm_hashOf 14 = .ok (.if_icmp .ge 30, 3) := by decide +kernel
theorem d_mm_hashOf_17 : decode b_mm_hashOf 17 = .ok (.iload_n 3, 1) := by decide +kernel
theorem d_mm_hashOf_18 : decode b_mm_hashOf 18 = .ok (.aload_n 0, 1) := by decide +kernel
theorem d_mm_hashOf_19 : decode b_mm_hashOf 19 = .ok (.getfield 53, 3) := by decide +kernel
theorem d_mm_hashOf_22 : decode b_mm_hashOf 22 = .ok (.aload_n 0, 1) := by decide +kernel
theorem d_mm_hashOf_23 : decode b_mm_hashOf 23 = .ok (.getfield 41, 3) := by decide +kernel
theorem d_mm_hashOf_26 : decode b_mm_hashOf 26 = .ok (.iconst 4, 1) := by decide +kernel
theorem d_mm_hashOf_27 : decode b_mm_hashOf 27 = .ok (.iload_n 1, 1) := by decide +kernel
theorem d_mm_hashOf_28 : decode b_mm_hashOf 28 = .ok (.imul, 1) := by decide +kernel
theorem d_mm_hashOf_29 : decode b_mm_hashOf 29 = .ok (.iload 4, 2) := by decide +kernel
theorem d_mm_hashOf_31 : decode b_mm_hashOf 31 = .ok (.iadd, 1) := by decide +kernel
theorem d_mm_hashOf_32 : decode b_mm_hashOf 32 = .ok (.iaload, 1) := by decide +kernel
theorem d_mm_hashOf_33 : decode b_mm_hashOf 33 = .ok (.iaload, 1) := by decide +kernel
theorem d_mm_hashOf_34 : decode b_mm_hashOf 34 = .ok (.invokestatic 101, 3) := by decide +kernel
theorem d_mm_hashOf_37 : decode b_mm_hashOf 37 = .ok (.istore_n 3, 1) := by decide +kernel
theorem d_mm_hashOf_38 : decode b_mm_hashOf 38 = .ok (.iinc 4 1, 3) := by decide +kernel
theorem d_mm_hashOf_41 : decode b_mm_hashOf 41 = .ok (.goto (-35), 3) := by decide +kernel
theorem d_mm_hashOf_44 : decode b_mm_hashOf 44 = .ok (.iconst 0, 1) := by decide +kernel
theorem d_mm_hashOf_45 : decode b_mm_hashOf 45 = .ok (.istore 4, 2) := by decide +kernel
theorem d_mm_hashOf_47 : decode b_mm_hashOf 47 = .ok (.iload 4, 2) := by decide +kernel
theorem d_mm_hashOf_49 : decode b_mm_hashOf 49 = .ok (.aload_n 0, 1) := by decide +kernel
theorem d_mm_hashOf_50 : decode b_mm_hashOf 50 = .ok (.getfield 44, 3) := by decide +kernel
theorem d_mm_hashOf_53 : decode b_mm_hashOf 53 = .ok (.iload_n 1, 1) := by decide +kernel
theorem d_mm_hashOf_54 : decode b_mm_hashOf 54 = .ok (.iaload, 1) := by decide +kernel
theorem d_mm_hashOf_55 : decode b_mm_hashOf 55 = .ok (.if_icmp .ge 30, 3) := by decide +kernel
theorem d_mm_hashOf_58 : decode b_mm_hashOf 58 = .ok (.iload_n 3, 1) := by decide +kernel
theorem d_mm_hashOf_59 : decode b_mm_hashOf 59 = .ok (.aload_n 0, 1) := by decide +kernel
theorem d_mm_hashOf_60 : decode b_mm_hashOf 60 = .ok (.getfield 31, 3) := by decide +kernel
theorem d_mm_hashOf_63 : decode b_mm_hashOf 63 = .ok (.aload_n 0, 1) := by decide +kernel
theorem d_mm_hashOf_64 : decode b_mm_hashOf 64 = .ok (.getfield 47, 3) := by decide +kernel
theorem d_mm_hashOf_67 : decode b_mm_hashOf 67 = .ok (.iconst 3, 1) := by decide +kernel
theorem d_mm_hashOf_68 : decode b_mm_hashOf 68 = .ok (.iload_n 1, 1) := by decide +kernel
theorem d_mm_hashOf_69 : decode b_mm_hashOf 69 = .ok (.imul, 1) := by decide +kernel
theorem d_mm_hashOf_70 : decode b_mm_hashOf 70 = .ok (.iload 4, 2) := by decide +kernel
theorem d_mm_hashOf_72 : decode b_mm_hashOf 72 = .ok (.iadd, 1) := by decide +kernel
theorem d_mm_hashOf_73 : decode b_mm_hashOf 73 = .ok (.iaload, 1) := by decide +kernel
theorem d_mm_hashOf_74 : decode b_mm_hashOf 74 = .ok (.iaload, 1) := by decide +kernel
theorem d_mm_hashOf_75 : decode b_mm_hashOf 75 = .ok (.invokestatic 101, 3) := by decide +kernel
theorem d_mm_hashOf_78 : decode b_mm_hashOf 78 = .ok (.istore_n 3, 1) := by decide +kernel
theorem d_mm_hashOf_79 : decode b_mm_hashOf 79 = .ok (.iinc 4 1, 3) := by decide +kernel
theorem d_mm_hashOf_82 : decode b_mm_hashOf 82 = .ok (.goto (-35), 3) := by decide +kernel
theorem d_mm_hashOf_85 : decode b_mm_hashOf 85 = .ok (.iload_n 3, 1) := by decide +kernel
theorem d_mm_hashOf_86 : decode b_mm_hashOf 86 = .ok (.aload_n 0, 1) := by decide +kernel
theorem d_mm_hashOf_87 : decode b_mm_hashOf 87 = .ok (.getfield 50, 3) := by decide +kernel
theorem d_mm_hashOf_90 : decode b_mm_hashOf 90 = .ok (.iload_n 1, 1) := by decide +kernel
theorem d_mm_hashOf_91 : decode b_mm_hashOf 91 = .ok (.iaload, 1) := by decide +kernel
theorem d_mm_hashOf_92 : decode b_mm_hashOf 92 = .ok (.invokestatic 101, 3) := by decide +kernel
theorem d_mm_hashOf_95 : decode b_mm_hashOf 95 = .ok (.iload_n 2, 1) := by decide +kernel
theorem d_mm_hashOf_96 : decode b_mm_hashOf 96 = .ok (.invokestatic 101, 3) := by decide +kernel
theorem d_mm_hashOf_99 : decode b_mm_hashOf 99 = .ok (.ldc 105, 2) := by decide +kernel
theorem d_mm_hashOf_101 : decode b_mm_hashOf 101 = .ok (.iand, 1) := by decide +kernel
theorem d_mm_hashOf_102 : decode b_mm_hashOf 102 = .ok (.ireturn, 1) := by decide +kernel
theorem d_mm_build_0 : decode b_mm_build 0 = .ok (.aload_n 0, 1) := by decide +kernel
theorem d_mm_build_1 : decode b_mm_build 1 = .ok (.getfield 34, 3) := by decide +kernel
theorem d_mm_build_4 : decode b_mm_build 4 = .ok (.istore 4, 2) := by decide +kernel
theorem d_mm_build_6 : decode b_mm_build 6 = .ok (.aload_n 0, 1) := by decide +kernel
theorem d_mm_build_7 : decode b_mm_build 7 = .ok (.dup, 1) := by decide +kernel
theorem d_mm_build_8 : decode b_mm_build 8 = .ok (.getfield 34, 3) := by decide +kernel
theorem d_mm_build_11 : decode b_mm_build 11 = .ok (.iconst 1, 1) := by decide +kernel
theorem d_mm_build_12 : decode b_mm_build 12 = .ok (.iadd, 1) := by decide +kernel
theorem d_mm_build_13 : decode b_mm_build 13 = .ok (.putfield 34, 3) := by decide +kernel
theorem d_mm_build_16 : decode b_mm_build 16 = .ok (.aload_n 0, 1) := by decide +kernel
theorem d_mm_build_17 : decode b_mm_build 17 = .ok (.getfield 38, 3) := by decide +kernel
theorem d_mm_build_20 : decode b_mm_build 20 = .ok (.iload 4, 2) := by decide +kernel
theorem d_mm_build_22 : decode b_mm_build 22 = .ok (.aload_n 0, 1) := by decide +kernel
theorem d_mm_build_23 : decode b_mm_build 23 = .ok (.getfield 38, 3) := by decide +kernel
theorem d_mm_build_26 : decode b_mm_build 26 = .ok (.iload_n 1, 1) := by decide +kernel
theorem d_mm_build_27 : decode b_mm_build 27 = .ok (.iaload, 1) := by decide +kernel
theorem d_mm_build_28 : decode b_mm_build 28 = .ok (.iastore, 1) := by decide +kernel
theorem d_mm_build_29 : decode b_mm_build 29 = .ok (.aload_n 0, 1) := by decide +kernel
theorem d_mm_build_30 : decode b_mm_build 30 = .ok (.getfield 44, 3) := by decide +kernel
theorem d_mm_build_33 : decode b_mm_build 33 = .ok (.iload 4, 2) := by decide +kernel
theorem d_mm_build_35 : decode b_mm_build 35 = .ok (.aload_n 0, 1) := by decide +kernel
theorem d_mm_build_36 : decode b_mm_build 36 = .ok (.getfield 44, 3) := by decide +kernel
theorem d_mm_build_39 : decode b_mm_build 39 = .ok (.iload_n 1, 1) := by decide +kernel
theorem d_mm_build_40 : decode b_mm_build 40 = .ok (.iaload, 1) := by decide +kernel
theorem d_mm_build_41 : decode b_mm_build 41 = .ok (.iastore, 1) := by decide +kernel
theorem d_mm_build_42 : decode b_mm_build 42 = .ok (.iconst 0, 1) := by decide +kernel
theorem d_mm_build_43 : decode b_mm_build 43 = .ok (.istore 5, 2) := by decide +kernel
theorem d_mm_build_45 : decode b_mm_build 45 = .ok (.iload 5, 2) := by decide +kernel
theorem d_mm_build_47 : decode b_mm_build 47 = .ok (.iconst 4, 1) := by decide +kernel
theorem d_mm_build_48 : decode b_mm_build 48 = .ok (.if_icmp .ge 32, 3) := by decide +kernel
theorem d_mm_build_51 : decode b_mm_build 51 = .ok (.aload_n 0, 1) := by decide +kernel
theorem d_mm_build_52 : decode b_mm_build 52 = .ok (.getfield 41, 3) := by decide +kernel
theorem d_mm_build_55 : decode b_mm_build 55 = .ok (.iconst 4, 1) := by decide +kernel
theorem d_mm_build_56 : decode b_mm_build 56 = .ok (.iload 4, 2) := by decide +kernel
theorem d_mm_build_58 : decode b_mm_build 58 = .ok (.imul, 1) := by decide +kernel
theorem d_mm_build_59 : decode b_mm_build 59 = .ok (.iload 5, 2) := by decide +kernel
theorem d_mm_build_61 : decode b_mm_build 61 = .ok (.iadd, 1) := by decide +kernel
theorem d_mm_build_62 : decode b_mm_build 62 = .ok (.aload_n 0, 1) := by decide +kernel
theorem d_mm_build_63 : decode b_mm_build 63 = .ok (.getfield 41, 3) := by decide +kernel
theorem d_mm_build_66 : decode b_mm_build 66 = .ok (.iconst 4, 1) := by decide +kernel
theorem d_mm_build_67 : decode b_mm_build 67 = .ok (.iload_n 1, 1) := by decide +kernel
theorem d_mm_build_68 : decode b_mm_build 68 = .ok (.imul, 1) := by decide +kernel
theorem d_mm_build_69 : decode b_mm_build 69 = .ok (.iload 5, 2) := by decide +kernel
theorem d_mm_build_71 : decode b_mm_build 71 = .ok (.iadd, 1) := by decide +kernel
theorem d_mm_build_72 : decode b_mm_build 72 = .ok (.iaload, 1) := by decide +kernel
theorem d_mm_build_73 : decode b_mm_build 73 = .ok (.iastore, 1) := by decide +kernel
theorem d_mm_build_74 : decode b_mm_build 74 = .ok (.iinc 5 1, 3) := by decide +kernel
theorem d_mm_build_77 : decode b_mm_build 77 = .ok (.goto (-32), 3) := by decide +kernel
theorem d_mm_build_80 : decode b_mm_build 80 = .ok (.iconst 0, 1) := by decide +kernel
theorem d_mm_build_81 : decode b_mm_build 81 = .ok (.istore 5, 2) := by decide +kernel
theorem d_mm_build_83 : decode b_mm_build 83 = .ok (.iload 5, 2) := by decide +kernel
theorem d_mm_build_85 : decode b_mm_build 85 = .ok (.iconst 3, 1) := by decide +kernel
theorem d_mm_build_86 : decode b_mm_build 86 = .ok (.if_icmp .ge 32, 3) := by decide +kernel
theorem d_mm_build_89 : decode b_mm_build 89 = .ok (.aload_n 0, 1) := by decide +kernel
theorem d_mm_build_90 : decode b_mm_build 90 = .ok (.getfield 47, 3) := by decide +kernel
theorem d_mm_build_93 : decode b_mm_build 93 = .ok (.iconst 3, 1) := by decide +kernel
theorem d_mm_build_94 : decode b_mm_build 94 = .ok (.iload 4, 2) := by decide +kernel
theorem d_mm_build_96 : decode b_mm_build 96 = .ok (.imul, 1) := by decide +kernel
theorem d_mm_build_97 : decode b_mm_build 97 = .ok (.iload 5, 2) := by decide +kernel
theorem d_mm_build_99 : decode b_mm_build 99 = .ok (.iadd, 1) := by decide +kernel
theorem d_mm_build_100 : decode b_mm_build 100 = .ok (.aload_n 0, 1) := by decide +kernel
theorem d_mm_build_101 : decode b_mm_build 101 = .ok (.getfield 47, 3) := by decide +kernel
theorem d_mm_build_104 : decode b_mm_build 104 = .ok (.iconst 3, 1) := by decide +kernel
theorem d_mm_build_105 : decode b_mm_build 105 = .ok (.iload_n 1, 1) := by decide +kernel
theorem d_mm_build_106 : decode b_mm_build 106 = .ok (.imul, 1) := by decide +kernel
theorem d_mm_build_107 : decode b_mm_build 107 = .ok (.iload 5, 2) := by decide +kernel
theorem d_mm_build_109 : decode b_mm_build 109 = .ok (.iadd, 1) := by decide +kernel
theorem d_mm_build_110 : decode b_mm_build 110 = .ok (.iaload, 1) := by decide +kernel
theorem d_mm_build_111 : decode b_mm_build 111 = .ok (.iastore, 1) := by decide +kernel
theorem d_mm_build_112 : decode b_mm_build 112 = .ok (.iinc 5 1, 3) := by decide +kernel
theorem d_mm_build_115 : decode b_mm_build 115 = .ok (.goto (-32), 3) := by decide +kernel
theorem d_mm_build_118 : decode b_mm_build 118 = .ok (.aload_n 0, 1) := by decide +kernel
theorem d_mm_build_119 : decode b_mm_build 119 = .ok (.getfield 50, 3) := by decide +kernel
theorem d_mm_build_122 : decode b_mm_build 122 = .ok (.iload 4, 2) := by decide +kernel
theorem d_mm_build_124 : decode b_mm_build 124 = .ok (.bipush 7, 2) := by decide +kernel
theorem d_mm_build_126 : decode b_mm_build 126 = .ok (.iload_n 2, 1) := by decide +kernel
theorem d_mm_build_127 : decode b_mm_build 127 = .ok (.invokestatic 101, 3) := by decide +kernel
theorem d_mm_build_130 : decode b_mm_build 130 = .ok (.iastore, 1) := by decide +kernel
theorem d_mm_build_131 : decode b_mm_build 131 = .ok (.iconst 0, 1) := by decide +kernel
theorem d_mm_build_132 : decode b_mm_build 132 = .ok (.istore 5, 2) := by decide +kernel
theorem d_mm_build_134 : decode b_mm_build 134 = .ok (.iload 5, 2) := by decide +kernel
theorem d_mm_build_136 : decode b_mm_build 136 = .ok (.bipush 39, 2) := by decide +kernel
theorem d_mm_build_138 : decode b_mm_build 138 = .ok (.if_icmp .ge 24, 3) := by decide +kernel
theorem d_mm_build_141 : decode b_mm_build 141 = .ok (.aload_n 0, 1) := by decide +kernel
theorem d_mm_build_142 : decode b_mm_build 142 = .ok (.iload 4, 2) := by decide +kernel
theorem d_mm_build_144 : decode b_mm_build 144 = .ok (.iload_n 3, 1) := by decide +kernel
theorem d_mm_build_145 : decode b_mm_build 145 = .ok (.iload 5, 2) := by decide +kernel
theorem d_mm_build_147 : decode b_mm_build 147 = .ok (.iadd, 1) := by decide +kernel
theorem d_mm_build_148 : decode b_mm_build 148 = .ok (.invokevirtual 117, 3) := by decide +kernel
theorem d_mm_build_151 : decode b_mm_build 151 = .ok (.ldc 120, 2) := by decide +kernel
theorem d_mm_build_153 : decode b_mm_build 153 = .ok (.if_icmp .lt 9, 3) := by decide +kernel
theorem d_mm_build_156 : decode b_mm_build 156 = .ok (.iinc 5 1, 3) := by decide +kernel
theorem d_mm_build_159 : decode b_mm_build 159 = .ok (.goto (-25), 3) := by decide +kernel
theorem d_mm_build_162 : decode b_mm_build 162 = .ok (.aload_n 0, 1) := by decide +kernel
theorem d_mm_build_163 : decode b_mm_build 163 = .ok (.getfield 53, 3) := by decide +kernel
theorem d_mm_build_166 : decode b_mm_build 166 = .ok (.iload 4, 2) := by decide +kernel
theorem d_mm_build_168 : decode b_mm_build 168 = .ok (.aload_n 0, 1) := by decide +kernel
theorem d_mm_build_169 : decode b_mm_build 169 = .ok (.iload 4, 2) := by decide +kernel
theorem d_mm_build_171 : decode b_mm_build 171 = .ok (.iload_n 3, 1) := by decide +kernel
theorem d_mm_build_172 : decode b_mm_build 172 = .ok (.iload 5, 2) := by decide +kernel
theorem d_mm_build_174 : decode b_mm_build 174 = .ok (.iadd, 1) := by decide +kernel
theorem d_mm_build_175 : decode b_mm_build 175 = .ok (.invokevirtual 117, 3) := by decide +kernel
theorem d_mm_build_178 : decode b_mm_build 178 = .ok (.iastore, 1) := by decide +kernel
theorem d_mm_build_179 : decode b_mm_build 179 = .ok (.iload 4, 2) := by decide +kernel
theorem d_mm_build_181 : decode b_mm_build 181 = .ok (.ireturn, 1) := by decide +kernel
theorem d_mm_make_0 : decode b_mm_make 0 = .ok (.aload_n 0, 1) := by decide +kernel
theorem d_mm_make_1 : decode b_mm_make 1 = .ok (.getfield 38, 3) := by decide +kernel
theorem d_mm_make_4 : decode b_mm_make 4 = .ok (.bipush 60, 2) := by decide +kernel
theorem d_mm_make_6 : decode b_mm_make 6 = .ok (.iaload, 1) := by decide +kernel
theorem d_mm_make_7 : decode b_mm_make 7 = .ok (.ifCond .eq 12, 3) := by decide +kernel
theorem d_mm_make_10 : decode b_mm_make 10 = .ok (.aload_n 0, 1) := by decide +kernel
theorem d_mm_make_11 : decode b_mm_make 11 = .ok (.getfield 34, 3) := by decide +kernel
theorem d_mm_make_14 : decode b_mm_make 14 = .ok (.bipush 60, 2) := by decide +kernel
theorem d_mm_make_16 : decode b_mm_make 16 = .ok (.if_icmp .ne 5, 3) := by decide +kernel
theorem d_mm_make_19 : decode b_mm_make 19 = .ok (.iconst (-1), 1) := by decide +kernel
theorem d_mm_make_20 : decode b_mm_make 20 = .ok (.ireturn, 1) := by decide +kernel
theorem d_mm_make_21 : decode b_mm_make 21 = .ok (.aload_n 0, 1) := by decide +kernel
theorem d_mm_make_22 : decode b_mm_make 22 = .ok (.bipush 60, 2) := by decide +kernel
theorem d_mm_make_24 : decode b_mm_make 24 = .ok (.iload_n 1, 1) := by decide +kernel
theorem d_mm_make_25 : decode b_mm_make 25 = .ok (.iload_n 2, 1) := by decide +kernel
theorem d_mm_make_26 : decode b_mm_make 26 = .ok (.invokevirtual 121, 3) := by decide +kernel
theorem d_mm_make_29 : decode b_mm_make 29 = .ok (.istore_n 3, 1) := by decide +kernel
theorem d_mm_make_30 : decode b_mm_make 30 = .ok (.aload_n 0, 1) := by decide +kernel
theorem d_mm_make_31 : decode b_mm_make 31 = .ok (.getfield 38, 3) := by decide +kernel
theorem d_mm_make_34 : decode b_mm_make 34 = .ok (.bipush 60, 2) := by decide +kernel
theorem d_mm_make_36 : decode b_mm_make 36 = .ok (.iconst 0, 1) := by decide +kernel
theorem d_mm_make_37 : decode b_mm_make 37 = .ok (.iastore, 1) := by decide +kernel
theorem d_mm_make_38 : decode b_mm_make 38 = .ok (.aload_n 0, 1) := by decide +kernel
theorem d_mm_make_39 : decode b_mm_make 39 = .ok (.getfield 44, 3) := by decide +kernel
theorem d_mm_make_42 : decode b_mm_make 42 = .ok (.bipush 60, 2) := by decide +kernel
theorem d_mm_make_44 : decode b_mm_make 44 = .ok (.iconst 0, 1) := by decide +kernel
theorem d_mm_make_45 : decode b_mm_make 45 = .ok (.iastore, 1) := by decide +kernel
theorem d_mm_make_46 : decode b_mm_make 46 = .ok (.iload_n 3, 1) := by decide +kernel
theorem d_mm_make_47 : decode b_mm_make 47 = .ok (.ireturn, 1) := by decide +kernel
theorem d_mm_settle_0 : decode b_mm_settle 0 = .ok (.aload_n 0, 1) := by decide +kernel
theorem d_mm_settle_1 : decode b_mm_settle 1 = .ok (.invokevirtual 106, 3) := by decide +kernel
theorem d_mm_settle_4 : decode b_mm_settle 4 = .ok (.iconst 0, 1) := by decide +kernel
theorem d_mm_settle_5 : decode b_mm_settle 5 = .ok (.istore_n 1, 1) := by decide +kernel
theorem d_mm_settle_6 : decode b_mm_settle 6 = .ok (.iconst 0, 1) := by decide +kernel
theorem d_mm_settle_7 : decode b_mm_settle 7 = .ok (.istore_n 2, 1) := by decide +kernel
theorem d_mm_settle_8 : decode b_mm_settle 8 = .ok (.iload_n 2, 1) := by decide +kernel
theorem d_mm_settle_9 : decode b_mm_settle 9 = .ok (.aload_n 0, 1) := by decide +kernel
theorem d_mm_settle_10 : decode b_mm_settle 10 = .ok (.getfield 183, 3) := by decide +kernel
theorem d_mm_settle_13 : decode b_mm_settle 13 = .ok (.if_icmp .ge 51, 3) := by decide +kernel
theorem d_mm_settle_16 : decode b_mm_settle 16 = .ok (.aload_n 0, 1) := by decide +kernel
theorem d_mm_settle_17 : decode b_mm_settle 17 = .ok (.aload_n 0, 1) := by decide +kernel
theorem d_mm_settle_18 : decode b_mm_settle 18 = .ok (.getfield 76, 3) := by decide +kernel
theorem d_mm_settle_21 : decode b_mm_settle 21 = .ok (.iload_n 2, 1) := by decide +kernel
theorem d_mm_settle_22 : decode b_mm_settle 22 = .ok (.iaload, 1) := by decide +kernel
theorem d_mm_settle_23 : decode b_mm_settle 23 = .ok (.invokevirtual 165, 3) := by decide +kernel
theorem d_mm_settle_26 : decode b_mm_settle 26 = .ok (.ifCond .ne 6, 3) := by decide +kernel
theorem d_mm_settle_29 : decode b_mm_settle 29 = .ok (.goto 29, 3) := by decide +kernel
theorem d_mm_settle_32 : decode b_mm_settle 32 = .ok (.aload_n 0, 1) := by decide +kernel
theorem d_mm_settle_33 : decode b_mm_settle 33 = .ok (.aload_n 0, 1) := by decide +kernel
theorem d_mm_settle_34 : decode b_mm_settle 34 = .ok (.getfield 76, 3) := by decide +kernel
theorem d_mm_settle_37 : decode b_mm_settle 37 = .ok (.iload_n 2, 1) := by decide +kernel
theorem d_mm_settle_38 : decode b_mm_settle 38 = .ok (.iaload, 1) := by decide +kernel
theorem d_mm_settle_39 : decode b_mm_settle 39 = .ok (.invokevirtual 168, 3) := by decide +kernel
theorem d_mm_settle_42 : decode b_mm_settle 42 = .ok (.istore_n 3, 1) := by decide +kernel
theorem d_mm_settle_43 : decode b_mm_settle 43 = .ok (.aload_n 0, 1) := by decide +kernel
theorem d_mm_settle_44 : decode b_mm_settle 44 = .ok (.getfield 76, 3) := by decide +kernel
theorem d_mm_settle_47 : decode b_mm_settle 47 = .ok (.iload_n 1, 1) := by decide +kernel
theorem d_mm_settle_48 : decode b_mm_settle 48 = .ok (.aload_n 0, 1) := by decide +kernel
theorem d_mm_settle_49 : decode b_mm_settle 49 = .ok (.getfield 76, 3) := by decide +kernel
theorem d_mm_settle_52 : decode b_mm_settle 52 = .ok (.iload_n 2, 1) := by decide +kernel
theorem d_mm_settle_53 : decode b_mm_settle 53 = .ok (.iaload, 1) := by decide +kernel
theorem d_mm_settle_54 : decode b_mm_settle 54 = .ok (.iastore, 1) := by decide +kernel
theorem d_mm_settle_55 : decode b_mm_settle 55 = .ok (.iinc 1 1, 3) := by decide +kernel
theorem d_mm_settle_58 : decode b_mm_settle 58 = .ok (.iinc 2 1, 3) := by decide +kernel
theorem d_mm_settle_61 : decode b_mm_settle 61 = .ok (.goto (-53), 3) := by decide +kernel
theorem d_mm_settle_64 : decode b_mm_settle 64 = .ok (.aload_n 0, 1) := by decide +kernel
theorem d_mm_settle_65 : decode b_mm_settle 65 = .ok (.iload_n 1, 1) := by decide +kernel
theorem d_mm_settle_66 : decode b_mm_settle 66 = .ok (.putfield 183, 3) := by decide +kernel
theorem d_mm_settle_69 : decode b_mm_settle 69 = .ok (.return_, 1) := by decide +kernel
theorem d_mm_isOrphan_0 : decode b_mm_isOrphan 0 = .ok (.iconst 0, 1) := by decide +kernel
theorem d_mm_isOrphan_1 : decode b_mm_isOrphan 1 = .ok (.istore_n 2, 1) := by decide +kernel
theorem d_mm_isOrphan_2 : decode b_mm_isOrphan 2 = .ok (.iconst 0, 1) := by decide +kernel
theorem d_mm_isOrphan_3 : decode b_mm_isOrphan 3 = .ok (.istore_n 3, 1) := by decide +kernel
theorem d_mm_isOrphan_4 : decode b_mm_isOrphan 4 = .ok (.iload_n 3, 1) := by decide +kernel
theorem d_mm_isOrphan_5 : decode b_mm_isOrphan 5 = .ok (.aload_n 0, 1) := by decide +kernel
theorem d_mm_isOrphan_6 : decode b_mm_isOrphan 6 = .ok (.getfield 186, 3) := by decide +kernel
theorem d_mm_isOrphan_9 : decode b_mm_isOrphan 9 = .ok (.if_icmp .ge 29, 3) := by decide +kernel
theorem d_mm_isOrphan_12 : decode b_mm_isOrphan 12 = .ok (.iload_n 2, 1) := by decide +kernel
theorem d_mm_isOrphan_13 : decode b_mm_isOrphan 13 = .ok (.ifCond .ne 13, 3) := by decide +kernel
theorem d_mm_isOrphan_16 : decode b_mm_isOrphan 16 = .ok (.aload_n 0, 1) := by decide +kernel
theorem d_mm_isOrphan_17 : decode b_mm_isOrphan 17 = .ok (.getfield 73, 3) := by decide +kernel
theorem d_mm_isOrphan_20 : decode b_mm_isOrphan 20 = .ok (.iload_n 3, 1) := by decide +kernel
theorem d_mm_isOrphan_21 : decode b_mm_isOrphan 21 = .ok (.iaload, 1) := by decide +kernel
theorem d_mm_isOrphan_22 : decode b_mm_isOrphan 22 = .ok (.iload_n 1, 1) := by decide +kernel
theorem d_mm_isOrphan_23 : decode b_mm_isOrphan 23 = .ok (.if_icmp .ne 7, 3) := by decide +kernel
theorem d_mm_isOrphan_26 : decode b_mm_isOrphan 26 = .ok (.iconst 1, 1) := by decide +kernel
theorem d_mm_isOrphan_27 : decode b_mm_isOrphan 27 = .ok (.goto 4, 3) := by decide +kernel
theorem d_mm_isOrphan_30 : decode b_mm_isOrphan 30 = .ok (.iconst 0, 1) := by decide +kernel
theorem d_mm_isOrphan_31 : decode b_mm_isOrphan 31 = .ok (.istore_n 2, 1) := by decide +kernel
theorem d_mm_isOrphan_32 : decode b_mm_isOrphan 32 = .ok (.iinc 3 1, 3) := by decide +kernel
theorem d_mm_isOrphan_35 : decode b_mm_isOrphan 35 = .ok (.goto (-31), 3) := by decide +kernel
theorem d_mm_isOrphan_38 : decode b_mm_isOrphan 38 = .ok (.iload_n 2, 1) := by decide +kernel
theorem d_mm_isOrphan_39 : decode b_mm_isOrphan 39 = .ok (.ireturn, 1) := by decide +kernel
theorem d_mm_complete_0 : decode b_mm_complete 0 = .ok (.iconst 1, 1) := by decide +kernel
theorem d_mm_complete_1 : decode b_mm_complete 1 = .ok (.istore_n 2, 1) := by decide +kernel
theorem d_mm_complete_2 : decode b_mm_complete 2 = .ok (.iconst 0, 1) := by decide +kernel
theorem d_mm_complete_3 : decode b_mm_complete 3 = .ok (.istore_n 3, 1) := by decide +kernel
theorem d_mm_complete_4 : decode b_mm_complete 4 = .ok (.iload_n 3, 1) := by decide +kernel
theorem d_mm_complete_5 : decode b_mm_complete 5 = .ok (.aload_n 0, 1) := by decide +kernel
theorem d_mm_complete_6 : decode b_mm_complete 6 = .ok (.getfield 38, 3) := by decide +kernel
theorem d_mm_complete_9 : decode b_mm_complete 9 = .ok (.iload_n 1, 1) := by decide +kernel
theorem d_mm_complete_10 : decode b_mm_complete 10 = .ok (.iaload, 1) := by decide +kernel
theorem d_mm_complete_11 : decode b_mm_complete 11 = .ok (.if_icmp .ge 39, 3) := by decide +kernel
theorem d_mm_complete_14 : decode b_mm_complete 14 = .ok (.iload_n 2, 1) := by decide +kernel
theorem d_mm_complete_15 : decode b_mm_complete 15 = .ok (.ifCond .eq 27, 3) := by decide +kernel
theorem d_mm_complete_18 : decode b_mm_complete 18 = .ok (.aload_n 0, 1) := by decide +kernel
theorem d_mm_complete_19 : decode b_mm_complete 19 = .ok (.getfield 56, 3) := by decide +kernel
theorem d_mm_complete_22 : decode b_mm_complete 22 = .ok (.aload_n 0, 1) := by decide +kernel
theorem d_mm_complete_23 : decode b_mm_complete 23 = .ok (.getfield 41, 3) := by decide +kernel
theorem d_mm_complete_26 : decode b_mm_complete 26 = .ok (.iconst 4, 1) := by decide +kernel
theorem d_mm_complete_27 : decode b_mm_complete 27 = .ok (.iload_n 1, 1) := by decide +kernel
theorem d_mm_complete_28 : decode b_mm_complete 28 = .ok (.imul, 1) := by decide +kernel
theorem d_mm_complete_29 : decode b_mm_complete 29 = .ok (.iload_n 3, 1) := by decide +kernel
theorem d_mm_complete_30 : decode b_mm_complete 30 = .ok (.iadd, 1) := by decide +kernel
theorem d_mm_complete_31 : decode b_mm_complete 31 = .ok (.iaload, 1) := by decide +kernel
theorem d_mm_complete_32 : decode b_mm_complete 32 = .ok (.invokestatic 125, 3) := by decide +kernel
theorem d_mm_complete_35 : decode b_mm_complete 35 = .ok (.ifCond .eq 7, 3) := by decide +kernel
theorem d_mm_complete_38 : decode b_mm_complete 38 = .ok (.iconst 1, 1) := by decide +kernel
theorem d_mm_complete_39 : decode b_mm_complete 39 = .ok (.goto 4, 3) := by decide +kernel
theorem d_mm_complete_42 : decode b_mm_complete 42 = .ok (.iconst 0, 1) := by decide +kernel
theorem d_mm_complete_43 : decode b_mm_complete 43 = .ok (.istore_n 2, 1) := by decide +kernel
theorem d_mm_complete_44 : decode b_mm_complete 44 = .ok (.iinc 3 1, 3) := by decide +kernel
theorem d_mm_complete_47 : decode b_mm_complete 47 = .ok (.goto (-43), 3) := by decide +kernel
theorem d_mm_complete_50 : decode b_mm_complete 50 = .ok (.iload_n 2, 1) := by decide +kernel
theorem d_mm_complete_51 : decode b_mm_complete 51 = .ok (.ireturn, 1) := by decide +kernel
theorem d_mm_nested_0 : decode b_mm_nested 0 = .ok (.iconst 0, 1) := by decide +kernel
theorem d_mm_nested_1 : decode b_mm_nested 1 = .ok (.istore_n 2, 1) := by decide +kernel
theorem d_mm_nested_2 : decode b_mm_nested 2 = .ok (.iconst 0, 1) := by decide +kernel
theorem d_mm_nested_3 : decode b_mm_nested 3 = .ok (.istore_n 3, 1) := by decide +kernel
theorem d_mm_nested_4 : decode b_mm_nested 4 = .ok (.iload_n 3, 1) := by decide +kernel
theorem d_mm_nested_5 : decode b_mm_nested 5 = .ok (.aload_n 0, 1) := by decide +kernel
theorem d_mm_nested_6 : decode b_mm_nested 6 = .ok (.getfield 38, 3) := by decide +kernel
theorem d_mm_nested_9 : decode b_mm_nested 9 = .ok (.iload_n 1, 1) := by decide +kernel
theorem d_mm_nested_10 : decode b_mm_nested 10 = .ok (.iaload, 1) := by decide +kernel
theorem d_mm_nested_11 : decode b_mm_nested 11 = .ok (.if_icmp .ge 71, 3) := by decide +kernel
theorem d_mm_nested_14 : decode b_mm_nested 14 = .ok (.iconst 0, 1) := by decide +kernel
theorem d_mm_nested_15 : decode b_mm_nested 15 = .ok (.istore 4, 2) := by decide +kernel
theorem d_mm_nested_17 : decode b_mm_nested 17 = .ok (.iload 4, 2) := by decide +kernel
theorem d_mm_nested_19 : decode b_mm_nested 19 = .ok (.aload_n 0, 1) := by decide +kernel
theorem d_mm_nested_20 : decode b_mm_nested 20 = .ok (.getfield 38, 3) := by decide +kernel
theorem d_mm_nested_23 : decode b_mm_nested 23 = .ok (.iload_n 1, 1) := by decide +kernel
theorem d_mm_nested_24 : decode b_mm_nested 24 = .ok (.iaload, 1) := by decide +kernel
theorem d_mm_nested_25 : decode b_mm_nested 25 = .ok (.if_icmp .ge 51, 3) := by decide +kernel
theorem d_mm_nested_28 : decode b_mm_nested 28 = .ok (.iload_n 2, 1) := by decide +kernel
theorem d_mm_nested_29 : decode b_mm_nested 29 = .ok (.ifCond .ne 35, 3) := by decide +kernel
theorem d_mm_nested_32 : decode b_mm_nested 32 = .ok (.aload_n 0, 1) := by decide +kernel
theorem d_mm_nested_33 : decode b_mm_nested 33 = .ok (.getfield 60, 3) := by decide +kernel
theorem d_mm_nested_36 : decode b_mm_nested 36 = .ok (.aload_n 0, 1) := by decide +kernel
theorem d_mm_nested_37 : decode b_mm_nested 37 = .ok (.getfield 41, 3) := by decide +kernel
theorem d_mm_nested_40 : decode b_mm_nested 40 = .ok (.iconst 4, 1) := by decide +kernel
theorem d_mm_nested_41 : decode b_mm_nested 41 = .ok (.iload_n 1, 1) := by decide +kernel
theorem d_mm_nested_42 : decode b_mm_nested 42 = .ok (.imul, 1) := by decide +kernel
theorem d_mm_nested_43 : decode b_mm_nested 43 = .ok (.iload_n 3, 1) := by decide +kernel
theorem d_mm_nested_44 : decode b_mm_nested 44 = .ok (.iadd, 1) := by decide +kernel
theorem d_mm_nested_45 : decode b_mm_nested 45 = .ok (.iaload, 1) := by decide +kernel
theorem d_mm_nested_46 : decode b_mm_nested 46 = .ok (.laload, 1) := by decide +kernel
theorem d_mm_nested_47 : decode b_mm_nested 47 = .ok (.aload_n 0, 1) := by decide +kernel
theorem d_mm_nested_48 : decode b_mm_nested 48 = .ok (.getfield 41, 3) := by decide +kernel
theorem d_mm_nested_51 : decode b_mm_nested 51 = .ok (.iconst 4, 1) := by decide +kernel
theorem d_mm_nested_52 : decode b_mm_nested 52 = .ok (.iload_n 1, 1) := by decide +kernel
theorem d_mm_nested_53 : decode b_mm_nested 53 = .ok (.imul, 1) := by decide +kernel
theorem d_mm_nested_54 : decode b_mm_nested 54 = .ok (.iload 4, 2) := by decide +kernel
theorem d_mm_nested_56 : decode b_mm_nested 56 = .ok (.iadd, 1) := by decide +kernel
theorem d_mm_nested_57 : decode b_mm_nested 57 = .ok (.iaload, 1) := by decide +kernel
theorem d_mm_nested_58 : decode b_mm_nested 58 = .ok (.invokestatic 125, 3) := by decide +kernel
theorem d_mm_nested_61 : decode b_mm_nested 61 = .ok (.ifCond .eq 7, 3) := by decide +kernel
theorem d_mm_nested_64 : decode b_mm_nested 64 = .ok (.iconst 1, 1) := by decide +kernel
theorem d_mm_nested_65 : decode b_mm_nested 65 = .ok (.goto 4, 3) := by decide +kernel
theorem d_mm_nested_68 : decode b_mm_nested 68 = .ok (.iconst 0, 1) := by decide +kernel
theorem d_mm_nested_69 : decode b_mm_nested 69 = .ok (.istore_n 2, 1) := by decide +kernel
theorem d_mm_nested_70 : decode b_mm_nested 70 = .ok (.iinc 4 1, 3) := by decide +kernel
theorem d_mm_nested_73 : decode b_mm_nested 73 = .ok (.goto (-56), 3) := by decide +kernel
theorem d_mm_nested_76 : decode b_mm_nested 76 = .ok (.iinc 3 1, 3) := by decide +kernel
theorem d_mm_nested_79 : decode b_mm_nested 79 = .ok (.goto (-75), 3) := by decide +kernel
theorem d_mm_nested_82 : decode b_mm_nested 82 = .ok (.iload_n 2, 1) := by decide +kernel
theorem d_mm_nested_83 : decode b_mm_nested 83 = .ok (.ireturn, 1) := by decide +kernel
theorem d_mm_enter_0 : decode b_mm_enter 0 = .ok (.lconst 0, 1) := by decide +kernel
theorem d_mm_enter_1 : decode b_mm_enter 1 = .ok (.lstore_n 2, 1) := by decide +kernel
theorem d_mm_enter_2 : decode b_mm_enter 2 = .ok (.iconst 0, 1) := by decide +kernel
theorem d_mm_enter_3 : decode b_mm_enter 3 = .ok (.istore 4, 2) := by decide +kernel
theorem d_mm_enter_5 : decode b_mm_enter 5 = .ok (.iload 4, 2) := by decide +kernel
theorem d_mm_enter_7 : decode b_mm_enter 7 = .ok (.aload_n 0, 1) := by decide +kernel
theorem d_mm_enter_8 : decode b_mm_enter 8 = .ok (.getfield 38, 3) := by decide +kernel
theorem d_mm_enter_11 : decode b_mm_enter 11 = .ok (.iload_n 1, 1) := by decide +kernel
theorem d_mm_enter_12 : decode b_mm_enter 12 = .ok (.iaload, 1) := by decide +kernel
theorem d_mm_enter_13 : decode b_mm_enter 13 = .ok (.if_icmp .ge 25, 3) := by decide +kernel
theorem d_mm_enter_16 : decode b_mm_enter 16 = .ok (.lload_n 2, 1) := by decide +kernel
theorem d_mm_enter_17 : decode b_mm_enter 17 = .ok (.lconst 1, 1) := by decide +kernel
theorem d_mm_enter_18 : decode b_mm_enter 18 = .ok (.aload_n 0, 1) := by decide +kernel
theorem d_mm_enter_19 : decode b_mm_enter 19 = .ok (.getfield 41, 3) := by decide +kernel
theorem d_mm_enter_22 : decode b_mm_enter 22 = .ok (.iconst 4, 1) := by decide +kernel
theorem d_mm_enter_23 : decode b_mm_enter 23 = .ok (.iload_n 1, 1) := by decide +kernel
theorem d_mm_enter_24 : decode b_mm_enter 24 = .ok (.imul, 1) := by decide +kernel
theorem d_mm_enter_25 : decode b_mm_enter 25 = .ok (.iload 4, 2) := by decide +kernel
theorem d_mm_enter_27 : decode b_mm_enter 27 = .ok (.iadd, 1) := by decide +kernel
theorem d_mm_enter_28 : decode b_mm_enter 28 = .ok (.iaload, 1) := by decide +kernel
theorem d_mm_enter_29 : decode b_mm_enter 29 = .ok (.lshl, 1) := by decide +kernel
theorem d_mm_enter_30 : decode b_mm_enter 30 = .ok (.lor, 1) := by decide +kernel
theorem d_mm_enter_31 : decode b_mm_enter 31 = .ok (.lstore_n 2, 1) := by decide +kernel
theorem d_mm_enter_32 : decode b_mm_enter 32 = .ok (.iinc 4 1, 3) := by decide +kernel
theorem d_mm_enter_35 : decode b_mm_enter 35 = .ok (.goto (-30), 3) := by decide +kernel
