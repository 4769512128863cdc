theorem dX11_addRule_162 : decode cX11_addRule 162 = .ok (.imul, 1) := by decide +kernel
theorem dX11_addRule_163 : decode cX11_addRule 163 = .ok (.aload_n 0, 1) := by decide +kernel
theorem dX11_addRule_164 : decode cX11_addRule 164 = .ok (.getfield 16, 3) := by decide +kernel
theorem dX11_addRule_167 : decode cX11_addRule 167 = .ok (.iload_n 2, 1) := by decide +kernel
theorem dX11_addRule_168 : decode cX11_addRule 168 = .ok (.caload, 1) := by decide +kernel
theorem dX11_addRule_169 : decode cX11_addRule 169 = .ok (.iadd, 1) := by decide +kernel
theorem dX11_addRule_170 : decode cX11_addRule 170 = .ok (.bipush 48, 2) := by decide +kernel
theorem dX11_addRule_172 : decode cX11_addRule 172 = .ok (.isub, 1) := by decide +kernel
theorem dX11_addRule_173 : decode cX11_addRule 173 = .ok (.istore 5, 2) := by decide +kernel
theorem dX11_addRule_175 : decode cX11_addRule 175 = .ok (.iinc 2 1, 3) := by decide +kernel
theorem dX11_addRule_178 : decode cX11_addRule 178 = .ok (.iinc 4 1, 3) := by decide +kernel
theorem dX11_addRule_181 : decode cX11_addRule 181 = .ok (.goto (-37), 3) := by decide +kernel
theorem dX11_addRule_184 : decode cX11_addRule 184 = .ok (.iload 4, 2) := by decide +kernel
theorem dX11_addRule_186 : decode cX11_addRule 186 = .ok (.ifCond .eq 11, 3) := by decide +kernel
theorem dX11_addRule_189 : decode cX11_addRule 189 = .ok (.iload_n 2, 1) := by decide +kernel
theorem dX11_addRule_190 : decode cX11_addRule 190 = .ok (.aload_n 0, 1) := by decide +kernel
theorem dX11_addRule_191 : decode cX11_addRule 191 = .ok (.getfield 187, 3) := by decide +kernel
theorem dX11_addRule_194 : decode cX11_addRule 194 = .ok (.if_icmp .ge 8, 3) := by decide +kernel
theorem dX11_addRule_197 : decode cX11_addRule 197 = .ok (.bipush (-100), 2) := by decide +kernel
theorem dX11_addRule_199 : decode cX11_addRule 199 = .ok (.iload_n 2, 1) := by decide +kernel
theorem dX11_addRule_200 : decode cX11_addRule 200 = .ok (.isub, 1) := by decide +kernel
theorem dX11_addRule_201 : decode cX11_addRule 201 = .ok (.ireturn, 1) := by decide +kernel
theorem dX11_addRule_202 : decode cX11_addRule 202 = .ok (.aload_n 0, 1) := by decide +kernel
theorem dX11_addRule_203 : decode cX11_addRule 203 = .ok (.getfield 90, 3) := by decide +kernel
theorem dX11_addRule_206 : decode cX11_addRule 206 = .ok (.bipush 12, 2) := by decide +kernel
theorem dX11_addRule_208 : decode cX11_addRule 208 = .ok (.if_icmp .ne 6, 3) := by decide +kernel
theorem dX11_addRule_211 : decode cX11_addRule 211 = .ok (.ldc 126, 2) := by decide +kernel
theorem dX11_addRule_213 : decode cX11_addRule 213 = .ok (.ireturn, 1) := by decide +kernel
theorem dX11_addRule_214 : decode cX11_addRule 214 = .ok (.aload_n 0, 1) := by decide +kernel
theorem dX11_addRule_215 : decode cX11_addRule 215 = .ok (.getfield 20, 3) := by decide +kernel
theorem dX11_addRule_218 : decode cX11_addRule 218 = .ok (.aload_n 0, 1) := by decide +kernel
theorem dX11_addRule_219 : decode cX11_addRule 219 = .ok (.getfield 90, 3) := by decide +kernel
theorem dX11_addRule_222 : decode cX11_addRule 222 = .ok (.iload_n 1, 1) := by decide +kernel
theorem dX11_addRule_223 : decode cX11_addRule 223 = .ok (.ifCond .eq 15, 3) := by decide +kernel
theorem dX11_addRule_226 : decode cX11_addRule 226 = .ok (.aload_n 0, 1) := by decide +kernel
theorem dX11_addRule_227 : decode cX11_addRule 227 = .ok (.getfield 16, 3) := by decide +kernel
theorem dX11_addRule_230 : decode cX11_addRule 230 = .ok (.iconst 0, 1) := by decide +kernel
theorem dX11_addRule_231 : decode cX11_addRule 231 = .ok (.caload, 1) := by decide +kernel
theorem dX11_addRule_232 : decode cX11_addRule 232 = .ok (.bipush 48, 2) := by decide +kernel
theorem dX11_addRule_234 : decode cX11_addRule 234 = .ok (.isub, 1) := by decide +kernel
theorem dX11_addRule_235 : decode cX11_addRule 235 = .ok (.goto 21, 3) := by decide +kernel
theorem dX11_addRule_238 : decode cX11_addRule 238 = .ok (.aload_n 0, 1) := by decide +kernel
theorem dX11_addRule_239 : decode cX11_addRule 239 = .ok (.getfield 16, 3) := by decide +kernel
theorem dX11_addRule_242 : decode cX11_addRule 242 = .ok (.iconst 0, 1) := by decide +kernel
theorem dX11_addRule_243 : decode cX11_addRule 243 = .ok (.caload, 1) := by decide +kernel
theorem dX11_addRule_244 : decode cX11_addRule 244 = .ok (.bipush 42, 2) := by decide +kernel
theorem dX11_addRule_246 : decode cX11_addRule 246 = .ok (.if_icmp .ne 8, 3) := by decide +kernel
theorem dX11_addRule_249 : decode cX11_addRule 249 = .ok (.bipush 8, 2) := by decide +kernel
theorem dX11_addRule_251 : decode cX11_addRule 251 = .ok (.goto 5, 3) := by decide +kernel
theorem dX11_addRule_254 : decode cX11_addRule 254 = .ok (.bipush 9, 2) := by decide +kernel
theorem dX11_addRule_256 : decode cX11_addRule 256 = .ok (.iastore, 1) := by decide +kernel
theorem dX11_addRule_257 : decode cX11_addRule 257 = .ok (.aload_n 0, 1) := by decide +kernel
theorem dX11_addRule_258 : decode cX11_addRule 258 = .ok (.getfield 23, 3) := by decide +kernel
theorem dX11_addRule_261 : decode cX11_addRule 261 = .ok (.aload_n 0, 1) := by decide +kernel
theorem dX11_addRule_262 : decode cX11_addRule 262 = .ok (.getfield 90, 3) := by decide +kernel
theorem dX11_addRule_265 : decode cX11_addRule 265 = .ok (.aload_n 0, 1) := by decide +kernel
theorem dX11_addRule_266 : decode cX11_addRule 266 = .ok (.getfield 16, 3) := by decide +kernel
theorem dX11_addRule_269 : decode cX11_addRule 269 = .ok (.iconst 1, 1) := by decide +kernel
theorem dX11_addRule_270 : decode cX11_addRule 270 = .ok (.caload, 1) := by decide +kernel
theorem dX11_addRule_271 : decode cX11_addRule 271 = .ok (.bipush 97, 2) := by decide +kernel
theorem dX11_addRule_273 : decode cX11_addRule 273 = .ok (.isub, 1) := by decide +kernel
theorem dX11_addRule_274 : decode cX11_addRule 274 = .ok (.iastore, 1) := by decide +kernel
theorem dX11_addRule_275 : decode cX11_addRule 275 = .ok (.aload_n 0, 1) := by decide +kernel
theorem dX11_addRule_276 : decode cX11_addRule 276 = .ok (.getfield 26, 3) := by decide +kernel
theorem dX11_addRule_279 : decode cX11_addRule 279 = .ok (.aload_n 0, 1) := by decide +kernel
theorem dX11_addRule_280 : decode cX11_addRule 280 = .ok (.getfield 90, 3) := by decide +kernel
theorem dX11_addRule_283 : decode cX11_addRule 283 = .ok (.aload_n 0, 1) := by decide +kernel
theorem dX11_addRule_284 : decode cX11_addRule 284 = .ok (.getfield 16, 3) := by decide +kernel
theorem dX11_addRule_287 : decode cX11_addRule 287 = .ok (.iconst 2, 1) := by decide +kernel
theorem dX11_addRule_288 : decode cX11_addRule 288 = .ok (.caload, 1) := by decide +kernel
theorem dX11_addRule_289 : decode cX11_addRule 289 = .ok (.bipush 60, 2) := by decide +kernel
theorem dX11_addRule_291 : decode cX11_addRule 291 = .ok (.if_icmp .ne 7, 3) := by decide +kernel
theorem dX11_addRule_294 : decode cX11_addRule 294 = .ok (.iconst 0, 1) := by decide +kernel
theorem dX11_addRule_295 : decode cX11_addRule 295 = .ok (.goto 19, 3) := by decide +kernel
theorem dX11_addRule_298 : decode cX11_addRule 298 = .ok (.aload_n 0, 1) := by decide +kernel
theorem dX11_addRule_299 : decode cX11_addRule 299 = .ok (.getfield 16, 3) := by decide +kernel
theorem dX11_addRule_302 : decode cX11_addRule 302 = .ok (.iconst 2, 1) := by decide +kernel
theorem dX11_addRule_303 : decode cX11_addRule 303 = .ok (.caload, 1) := by decide +kernel
theorem dX11_addRule_304 : decode cX11_addRule 304 = .ok (.bipush 62, 2) := by decide +kernel
theorem dX11_addRule_306 : decode cX11_addRule 306 = .ok (.if_icmp .ne 7, 3) := by decide +kernel
theorem dX11_addRule_309 : decode cX11_addRule 309 = .ok (.iconst 1, 1) := by decide +kernel
theorem dX11_addRule_310 : decode cX11_addRule 310 = .ok (.goto 4, 3) := by decide +kernel
theorem dX11_addRule_313 : decode cX11_addRule 313 = .ok (.iconst 2, 1) := by decide +kernel
theorem dX11_addRule_314 : decode cX11_addRule 314 = .ok (.iastore, 1) := by decide +kernel
theorem dX11_addRule_315 : decode cX11_addRule 315 = .ok (.aload_n 0, 1) := by decide +kernel
theorem dX11_addRule_316 : decode cX11_addRule 316 = .ok (.getfield 29, 3) := by decide +kernel
theorem dX11_addRule_319 : decode cX11_addRule 319 = .ok (.aload_n 0, 1) := by decide +kernel
theorem dX11_addRule_320 : decode cX11_addRule 320 = .ok (.getfield 90, 3) := by decide +kernel
theorem dX11_addRule_323 : decode cX11_addRule 323 = .ok (.iload 5, 2) := by decide +kernel
theorem dX11_addRule_325 : decode cX11_addRule 325 = .ok (.iastore, 1) := by decide +kernel
theorem dX11_addRule_326 : decode cX11_addRule 326 = .ok (.aload_n 0, 1) := by decide +kernel
theorem dX11_addRule_327 : decode cX11_addRule 327 = .ok (.dup, 1) := by decide +kernel
theorem dX11_addRule_328 : decode cX11_addRule 328 = .ok (.getfield 90, 3) := by decide +kernel
theorem dX11_addRule_331 : decode cX11_addRule 331 = .ok (.iconst 1, 1) := by decide +kernel
theorem dX11_addRule_332 : decode cX11_addRule 332 = .ok (.iadd, 1) := by decide +kernel
theorem dX11_addRule_333 : decode cX11_addRule 333 = .ok (.putfield 90, 3) := by decide +kernel
theorem dX11_addRule_336 : decode cX11_addRule 336 = .ok (.aload_n 0, 1) := by decide +kernel
theorem dX11_addRule_337 : decode cX11_addRule 337 = .ok (.getfield 90, 3) := by decide +kernel
theorem dX11_addRule_340 : decode cX11_addRule 340 = .ok (.iconst 1, 1) := by decide +kernel
theorem dX11_addRule_341 : decode cX11_addRule 341 = .ok (.isub, 1) := by decide +kernel
theorem dX11_addRule_342 : decode cX11_addRule 342 = .ok (.ireturn, 1) := by decide +kernel
theorem dX11_noRule_0 : decode cX11_noRule 0 = .ok (.iload_n 1, 1) := by decide +kernel
theorem dX11_noRule_1 : decode cX11_noRule 1 = .ok (.iconst 0, 1) := by decide +kernel
theorem dX11_noRule_2 : decode cX11_noRule 2 = .ok (.aload_n 0, 1) := by decide +kernel
theorem dX11_noRule_3 : decode cX11_noRule 3 = .ok (.getfield 90, 3) := by decide +kernel
theorem dX11_noRule_6 : decode cX11_noRule 6 = .ok (.iconst 1, 1) := by decide +kernel
theorem dX11_noRule_7 : decode cX11_noRule 7 = .ok (.isub, 1) := by decide +kernel
theorem dX11_noRule_8 : decode cX11_noRule 8 = .ok (.invokestatic 99, 3) := by decide +kernel
theorem dX11_noRule_11 : decode cX11_noRule 11 = .ok (.ifCond .ne 7, 3) := by decide +kernel
theorem dX11_noRule_14 : decode cX11_noRule 14 = .ok (.iconst 1, 1) := by decide +kernel
theorem dX11_noRule_15 : decode cX11_noRule 15 = .ok (.goto 4, 3) := by decide +kernel
theorem dX11_noRule_18 : decode cX11_noRule 18 = .ok (.iconst 0, 1) := by decide +kernel
theorem dX11_noRule_19 : decode cX11_noRule 19 = .ok (.ireturn, 1) := by decide +kernel
theorem dX11_removeRule_0 : decode cX11_removeRule 0 = .ok (.aload_n 0, 1) := by decide +kernel
theorem dX11_removeRule_1 : decode cX11_removeRule 1 = .ok (.iload_n 1, 1) := by decide +kernel
theorem dX11_removeRule_2 : decode cX11_removeRule 2 = .ok (.invokevirtual 197, 3) := by decide +kernel
theorem dX11_removeRule_5 : decode cX11_removeRule 5 = .ok (.ifCond .eq 6, 3) := by decide +kernel
theorem dX11_removeRule_8 : decode cX11_removeRule 8 = .ok (.ldc 112, 2) := by decide +kernel
theorem dX11_removeRule_10 : decode cX11_removeRule 10 = .ok (.ireturn, 1) := by decide +kernel
theorem dX11_removeRule_11 : decode cX11_removeRule 11 = .ok (.aload_n 0, 1) := by decide +kernel
theorem dX11_removeRule_12 : decode cX11_removeRule 12 = .ok (.dup, 1) := by decide +kernel
theorem dX11_removeRule_13 : decode cX11_removeRule 13 = .ok (.getfield 90, 3) := by decide +kernel
theorem dX11_removeRule_16 : decode cX11_removeRule 16 = .ok (.iconst 1, 1) := by decide +kernel
theorem dX11_removeRule_17 : decode cX11_removeRule 17 = .ok (.isub, 1) := by decide +kernel
theorem dX11_removeRule_18 : decode cX11_removeRule 18 = .ok (.putfield 90, 3) := by decide +kernel
theorem dX11_removeRule_21 : decode cX11_removeRule 21 = .ok (.iload_n 1, 1) := by decide +kernel
theorem dX11_removeRule_22 : decode cX11_removeRule 22 = .ok (.istore_n 2, 1) := by decide +kernel
theorem dX11_removeRule_23 : decode cX11_removeRule 23 = .ok (.iload_n 2, 1) := by decide +kernel
theorem dX11_removeRule_24 : decode cX11_removeRule 24 = .ok (.aload_n 0, 1) := by decide +kernel
theorem dX11_removeRule_25 : decode cX11_removeRule 25 = .ok (.getfield 90, 3) := by decide +kernel
theorem dX11_removeRule_28 : decode cX11_removeRule 28 = .ok (.if_icmp .ge 65, 3) := by decide +kernel
theorem dX11_removeRule_31 : decode cX11_removeRule 31 = .ok (.aload_n 0, 1) := by decide +kernel
theorem dX11_removeRule_32 : decode cX11_removeRule 32 = .ok (.getfield 20, 3) := by decide +kernel
theorem dX11_removeRule_35 : decode cX11_removeRule 35 = .ok (.iload_n 2, 1) := by decide +kernel
theorem dX11_removeRule_36 : decode cX11_removeRule 36 = .ok (.aload_n 0, 1) := by decide +kernel
theorem dX11_removeRule_37 : decode cX11_removeRule 37 = .ok (.getfield 20, 3) := by decide +kernel
theorem dX11_removeRule_40 : decode cX11_removeRule 40 = .ok (.iload_n 2, 1) := by decide +kernel
theorem dX11_removeRule_41 : decode cX11_removeRule 41 = .ok (.iconst 1, 1) := by decide +kernel
theorem dX11_removeRule_42 : decode cX11_removeRule 42 = .ok (.iadd, 1) := by decide +kernel
theorem dX11_removeRule_43 : decode cX11_removeRule 43 = .ok (.iaload, 1) := by decide +kernel
theorem dX11_removeRule_44 : decode cX11_removeRule 44 = .ok (.iastore, 1) := by decide +kernel
theorem dX11_removeRule_45 : decode cX11_removeRule 45 = .ok (.aload_n 0, 1) := by decide +kernel
theorem dX11_removeRule_46 : decode cX11_removeRule 46 = .ok (.getfield 23, 3) := by decide +kernel
theorem dX11_removeRule_49 : decode cX11_removeRule 49 = .ok (.iload_n 2, 1) := by decide +kernel
theorem dX11_removeRule_50 : decode cX11_removeRule 50 = .ok (.aload_n 0, 1) := by decide +kernel
theorem dX11_removeRule_51 : decode cX11_removeRule 51 = .ok (.getfield 23, 3) := by decide +kernel
theorem dX11_removeRule_54 : decode cX11_removeRule 54 = .ok (.iload_n 2, 1) := by decide +kernel
theorem dX11_removeRule_55 : decode cX11_removeRule 55 = .ok (.iconst 1, 1) := by decide +kernel
theorem dX11_removeRule_56 : decode cX11_removeRule 56 = .ok (.iadd, 1) := by decide +kernel
theorem dX11_removeRule_57 : decode cX11_removeRule 57 = .ok (.iaload, 1) := by decide +kernel
theorem dX11_removeRule_58 : decode cX11_removeRule 58 = .ok (.iastore, 1) := by decide +kernel
theorem dX11_removeRule_59 : decode cX11_removeRule 59 = .ok (.aload_n 0, 1) := by decide +kernel
theorem dX11_removeRule_60 : decode cX11_removeRule 60 = .ok (.getfield 26, 3) := by decide +kernel
theorem dX11_removeRule_63 : decode cX11_removeRule 63 = .ok (.iload_n 2, 1) := by decide +kernel
theorem dX11_removeRule_64 : decode cX11_removeRule 64 = .ok (.aload_n 0, 1) := by decide +kernel
theorem dX11_removeRule_65 : decode cX11_removeRule 65 = .ok (.getfield 26, 3) := by decide +kernel
theorem dX11_removeRule_68 : decode cX11_removeRule 68 = .ok (.iload_n 2, 1) := by decide +kernel
theorem dX11_removeRule_69 : decode cX11_removeRule 69 = .ok (.iconst 1, 1) := by decide +kernel
theorem dX11_removeRule_70 : decode cX11_removeRule 70 = .ok (.iadd, 1) := by decide +kernel
theorem dX11_removeRule_71 : decode cX11_removeRule 71 = .ok (.iaload, 1) := by decide +kernel
theorem dX11_removeRule_72 : decode cX11_removeRule 72 = .ok (.iastore, 1) := by decide +kernel
theorem dX11_removeRule_73 : decode cX11_removeRule 73 = .ok (.aload_n 0, 1) := by decide +kernel
theorem dX11_removeRule_74 : decode cX11_removeRule 74 = .ok (.getfield 29, 3) := by decide +kernel
theorem dX11_removeRule_77 : decode cX11_removeRule 77 = .ok (.iload_n 2, 1) := by decide +kernel
theorem dX11_removeRule_78 : decode cX11_removeRule 78 = .ok (.aload_n 0, 1) := by decide +kernel
theorem dX11_removeRule_79 : decode cX11_removeRule 79 = .ok (.getfield 29, 3) := by decide +kernel
theorem dX11_removeRule_82 : decode cX11_removeRule 82 = .ok (.iload_n 2, 1) := by decide +kernel
theorem dX11_removeRule_83 : decode cX11_removeRule 83 = .ok (.iconst 1, 1) := by decide +kernel
theorem dX11_removeRule_84 : decode cX11_removeRule 84 = .ok (.iadd, 1) := by decide +kernel
theorem dX11_removeRule_85 : decode cX11_removeRule 85 = .ok (.iaload, 1) := by decide +kernel
theorem dX11_removeRule_86 : decode cX11_removeRule 86 = .ok (.iastore, 1) := by decide +kernel
theorem dX11_removeRule_87 : decode cX11_removeRule 87 = .ok (.iinc 2 1, 3) := by decide +kernel
theorem dX11_removeRule_90 : decode cX11_removeRule 90 = .ok (.goto (-67), 3) := by decide +kernel
theorem dX11_removeRule_93 : decode cX11_removeRule 93 = .ok (.aload_n 0, 1) := by decide +kernel
theorem dX11_removeRule_94 : decode cX11_removeRule 94 = .ok (.getfield 90, 3) := by decide +kernel
theorem dX11_removeRule_97 : decode cX11_removeRule 97 = .ok (.ireturn, 1) := by decide +kernel
theorem dX11_rule_0 : decode cX11_rule 0 = .ok (.aload_n 0, 1) := by decide +kernel
theorem dX11_rule_1 : decode cX11_rule 1 = .ok (.iload_n 1, 1) := by decide +kernel
theorem dX11_rule_2 : decode cX11_rule 2 = .ok (.invokevirtual 197, 3) := by decide +kernel
theorem dX11_rule_5 : decode cX11_rule 5 = .ok (.ifCond .eq 6, 3) := by decide +kernel
theorem dX11_rule_8 : decode cX11_rule 8 = .ok (.ldc 112, 2) := by decide +kernel
theorem dX11_rule_10 : decode cX11_rule 10 = .ok (.ireturn, 1) := by decide +kernel
theorem dX11_rule_11 : decode cX11_rule 11 = .ok (.iload_n 2, 1) := by decide +kernel
theorem dX11_rule_12 : decode cX11_rule 12 = .ok (.tableswitch 60 0 3 #[32, 39, 46, 53], 32) := by decide +kernel
theorem dX11_rule_44 : decode cX11_rule 44 = .ok (.aload_n 0, 1) := by decide +kernel
theorem dX11_rule_45 : decode cX11_rule 45 = .ok (.getfield 20, 3) := by decide +kernel
theorem dX11_rule_48 : decode cX11_rule 48 = .ok (.iload_n 1, 1) := by decide +kernel
theorem dX11_rule_49 : decode cX11_rule 49 = .ok (.iaload, 1) := by decide +kernel
theorem dX11_rule_50 : decode cX11_rule 50 = .ok (.ireturn, 1) := by decide +kernel
theorem dX11_rule_51 : decode cX11_rule 51 = .ok (.aload_n 0, 1) := by decide +kernel
theorem dX11_rule_52 : decode cX11_rule 52 = .ok (.getfield 23, 3) := by decide +kernel
theorem dX11_rule_55 : decode cX11_rule 55 = .ok (.iload_n 1, 1) := by decide +kernel
theorem dX11_rule_56 : decode cX11_rule 56 = .ok (.iaload, 1) := by decide +kernel
theorem dX11_rule_57 : decode cX11_rule 57 = .ok (.ireturn, 1) := by decide +kernel
theorem dX11_rule_58 : decode cX11_rule 58 = .ok (.aload_n 0, 1) := by decide +kernel
theorem dX11_rule_59 : decode cX11_rule 59 = .ok (.getfield 26, 3) := by decide +kernel
theorem dX11_rule_62 : decode cX11_rule 62 = .ok (.iload_n 1, 1) := by decide +kernel
theorem dX11_rule_63 : decode cX11_rule 63 = .ok (.iaload, 1) := by decide +kernel
theorem dX11_rule_64 : decode cX11_rule 64 = .ok (.ireturn, 1) := by decide +kernel
theorem dX11_rule_65 : decode cX11_rule 65 = .ok (.aload_n 0, 1) := by decide +kernel
theorem dX11_rule_66 : decode cX11_rule 66 = .ok (.getfield 29, 3) := by decide +kernel
theorem dX11_rule_69 : decode cX11_rule 69 = .ok (.iload_n 1, 1) := by decide +kernel
theorem dX11_rule_70 : decode cX11_rule 70 = .ok (.iaload, 1) := by decide +kernel
theorem dX11_rule_71 : decode cX11_rule 71 = .ok (.ireturn, 1) := by decide +kernel
theorem dX11_rule_72 : decode cX11_rule 72 = .ok (.ldc 103, 2) := by decide +kernel
theorem dX11_rule_74 : decode cX11_rule 74 = .ok (.ireturn, 1) := by decide +kernel
theorem dX11_keeps_0 : decode cX11_keeps 0 = .ok (.aload_n 0, 1) := by decide +kernel
theorem dX11_keeps_1 : decode cX11_keeps 1 = .ok (.getfield 26, 3) := by decide +kernel
theorem dX11_keeps_4 : decode cX11_keeps 4 = .ok (.iload_n 1, 1) := by decide +kernel
theorem dX11_keeps_5 : decode cX11_keeps 5 = .ok (.iaload, 1) := by decide +kernel
theorem dX11_keeps_6 : decode cX11_keeps 6 = .ok (.ifCond .ne 21, 3) := by decide +kernel
theorem dX11_keeps_9 : decode cX11_keeps 9 = .ok (.iload_n 2, 1) := by decide +kernel
theorem dX11_keeps_10 : decode cX11_keeps 10 = .ok (.aload_n 0, 1) := by decide +kernel
theorem dX11_keeps_11 : decode cX11_keeps 11 = .ok (.getfield 29, 3) := by decide +kernel
theorem dX11_keeps_14 : decode cX11_keeps 14 = .ok (.iload_n 1, 1) := by decide +kernel
theorem dX11_keeps_15 : decode cX11_keeps 15 = .ok (.iaload, 1) := by decide +kernel
theorem dX11_keeps_16 : decode cX11_keeps 16 = .ok (.if_icmp .gt 7, 3) := by decide +kernel
theorem dX11_keeps_19 : decode cX11_keeps 19 = .ok (.iconst 1, 1) := by decide +kernel
theorem dX11_keeps_20 : decode cX11_keeps 20 = .ok (.goto 50, 3) := by decide +kernel
theorem dX11_keeps_23 : decode cX11_keeps 23 = .ok (.iconst 0, 1) := by decide +kernel
theorem dX11_keeps_24 : decode cX11_keeps 24 = .ok (.goto 46, 3) := by decide +kernel
theorem dX11_keeps_27 : decode cX11_keeps 27 = .ok (.aload_n 0, 1) := by decide +kernel
theorem dX11_keeps_28 : decode cX11_keeps 28 = .ok (.getfield 26, 3) := by decide +kernel
theorem dX11_keeps_31 : decode cX11_keeps 31 = .ok (.iload_n 1, 1) := by decide +kernel
theorem dX11_keeps_32 : decode cX11_keeps 32 = .ok (.iaload, 1) := by decide +kernel
theorem dX11_keeps_33 : decode cX11_keeps 33 = .ok (.iconst 1, 1) := by decide +kernel
theorem dX11_keeps_34 : decode cX11_keeps 34 = .ok (.if_icmp .ne 21, 3) := by decide +kernel
theorem dX11_keeps_37 : decode cX11_keeps 37 = .ok (.iload_n 2, 1) := by decide +kernel
theorem dX11_keeps_38 : decode cX11_keeps 38 = .ok (.aload_n 0, 1) := by decide +kernel
theorem dX11_keeps_39 : decode cX11_keeps 39 = .ok (.getfield 29, 3) := by decide +kernel
theorem dX11_keeps_42 : decode cX11_keeps 42 = .ok (.iload_n 1, 1) := by decide +kernel
theorem dX11_keeps_43 : decode cX11_keeps 43 = .ok (.iaload, 1) := by decide +kernel
theorem dX11_keeps_44 : decode cX11_keeps 44 = .ok (.if_icmp .lt 7, 3) := by decide +kernel
theorem dX11_keeps_47 : decode cX11_keeps 47 = .ok (.iconst 1, 1) := by decide +kernel
theorem dX11_keeps_48 : decode cX11_keeps 48 = .ok (.goto 22, 3) := by decide +kernel
theorem dX11_keeps_51 : decode cX11_keeps 51 = .ok (.iconst 0, 1) := by decide +kernel
theorem dX11_keeps_52 : decode cX11_keeps 52 = .ok (.goto 18, 3) := by decide +kernel
theorem dX11_keeps_55 : decode cX11_keeps 55 = .ok (.iload_n 2, 1) := by decide +kernel
theorem dX11_keeps_56 : decode cX11_keeps 56 = .ok (.aload_n 0, 1) := by decide +kernel
theorem dX11_keeps_57 : decode cX11_keeps 57 = .ok (.getfield 29, 3) := by decide +kernel
theorem dX11_keeps_60 : decode cX11_keeps 60 = .ok (.iload_n 1, 1) := by decide +kernel
theorem dX11_keeps_61 : decode cX11_keeps 61 = .ok (.iaload, 1) := by decide +kernel
theorem dX11_keeps_62 : decode cX11_keeps 62 = .ok (.if_icmp .ne 7, 3) := by decide +kernel
theorem dX11_keeps_65 : decode cX11_keeps 65 = .ok (.iconst 1, 1) := by decide +kernel
theorem dX11_keeps_66 : decode cX11_keeps 66 = .ok (.goto 4, 3) := by decide +kernel
theorem dX11_keeps_69 : decode cX11_keeps 69 = .ok (.iconst 0, 1) := by decide +kernel
theorem dX11_keeps_70 : decode cX11_keeps 70 = .ok (.ireturn, 1) := by decide +kernel
theorem dX11_transitOf_0 : decode cX11_transitOf 0 = .ok (.iconst 0, 1) := by decide +kernel
theorem dX11_transitOf_1 : decode cX11_transitOf 1 = .ok (.istore_n 3, 1) := by decide +kernel
theorem dX11_transitOf_2 : decode cX11_transitOf 2 = .ok (.iconst 0, 1) := by decide +kernel
theorem dX11_transitOf_3 : decode cX11_transitOf 3 = .ok (.istore 4, 2) := by decide +kernel
theorem dX11_transitOf_5 : decode cX11_transitOf 5 = .ok (.iload 4, 2) := by decide +kernel
theorem dX11_transitOf_7 : decode cX11_transitOf 7 = .ok (.aload_n 0, 1) := by decide +kernel
theorem dX11_transitOf_8 : decode cX11_transitOf 8 = .ok (.getfield 7, 3) := by decide +kernel
theorem dX11_transitOf_11 : decode cX11_transitOf 11 = .ok (.bipush 37, 2) := by decide +kernel
theorem dX11_transitOf_13 : decode cX11_transitOf 13 = .ok (.iaload, 1) := by decide +kernel
theorem dX11_transitOf_14 : decode cX11_transitOf 14 = .ok (.if_icmp .ge 69, 3) := by decide +kernel
theorem dX11_transitOf_17 : decode cX11_transitOf 17 = .ok (.iload_n 2, 1) := by decide +kernel
theorem dX11_transitOf_18 : decode cX11_transitOf 18 = .ok (.ifCond .eq 12, 3) := by decide +kernel
theorem dX11_transitOf_21 : decode cX11_transitOf 21 = .ok (.aload_n 0, 1) := by decide +kernel
theorem dX11_transitOf_22 : decode cX11_transitOf 22 = .ok (.iload 4, 2) := by decide +kernel
theorem dX11_transitOf_24 : decode cX11_transitOf 24 = .ok (.invokevirtual 184, 3) := by decide +kernel
theorem dX11_transitOf_27 : decode cX11_transitOf 27 = .ok (.goto 18, 3) := by decide +kernel
theorem dX11_transitOf_30 : decode cX11_transitOf 30 = .ok (.aload_n 0, 1) := by decide +kernel
theorem dX11_transitOf_31 : decode cX11_transitOf 31 = .ok (.iload 4, 2) := by decide +kernel
theorem dX11_transitOf_33 : decode cX11_transitOf 33 = .ok (.iconst 5, 1) := by decide +kernel
theorem dX11_transitOf_34 : decode cX11_transitOf 34 = .ok (.invokevirtual 114, 3) := by decide +kernel
theorem dX11_transitOf_37 : decode cX11_transitOf 37 = .ok (.ifCond .ge 7, 3) := by decide +kernel
theorem dX11_transitOf_40 : decode cX11_transitOf 40 = .ok (.iconst 1, 1) := by decide +kernel
theorem dX11_transitOf_41 : decode cX11_transitOf 41 = .ok (.goto 4, 3) := by decide +kernel
theorem dX11_transitOf_44 : decode cX11_transitOf 44 = .ok (.iconst 0, 1) := by decide +kernel
theorem dX11_transitOf_45 : decode cX11_transitOf 45 = .ok (.istore 5, 2) := by decide +kernel
theorem dX11_transitOf_47 : decode cX11_transitOf 47 = .ok (.iload_n 3, 1) := by decide +kernel
theorem dX11_transitOf_48 : decode cX11_transitOf 48 = .ok (.iload 5, 2) := by decide +kernel
theorem dX11_transitOf_50 : decode cX11_transitOf 50 = .ok (.ifCond .eq 24, 3) := by decide +kernel
theorem dX11_transitOf_53 : decode cX11_transitOf 53 = .ok (.aload_n 0, 1) := by decide +kernel
theorem dX11_transitOf_54 : decode cX11_transitOf 54 = .ok (.iload 4, 2) := by decide +kernel
theorem dX11_transitOf_56 : decode cX11_transitOf 56 = .ok (.iconst 2, 1) := by decide +kernel
theorem dX11_transitOf_57 : decode cX11_transitOf 57 = .ok (.invokevirtual 114, 3) := by decide +kernel
theorem dX11_transitOf_60 : decode cX11_transitOf 60 = .ok (.iload_n 1, 1) := by decide +kernel
theorem dX11_transitOf_61 : decode cX11_transitOf 61 = .ok (.if_icmp .ne 13, 3) := by decide +kernel
theorem dX11_transitOf_64 : decode cX11_transitOf 64 = .ok (.aload_n 0, 1) := by decide +kernel
theorem dX11_transitOf_65 : decode cX11_transitOf 65 = .ok (.iload 4, 2) := by decide +kernel
theorem dX11_transitOf_67 : decode cX11_transitOf 67 = .ok (.iconst 3, 1) := by decide +kernel
theorem dX11_transitOf_68 : decode cX11_transitOf 68 = .ok (.invokevirtual 114, 3) := by decide +kernel
theorem dX11_transitOf_71 : decode cX11_transitOf 71 = .ok (.goto 4, 3) := by decide +kernel
theorem dX11_transitOf_74 : decode cX11_transitOf 74 = .ok (.iconst 0, 1) := by decide +kernel
theorem dX11_transitOf_75 : decode cX11_transitOf 75 = .ok (.iadd, 1) := by decide +kernel
theorem dX11_transitOf_76 : decode cX11_transitOf 76 = .ok (.istore_n 3, 1) := by decide +kernel
theorem dX11_transitOf_77 : decode cX11_transitOf 77 = .ok (.iinc 4 1, 3) := by decide +kernel
theorem dX11_transitOf_80 : decode cX11_transitOf 80 = .ok (.goto (-75), 3) := by decide +kernel
theorem dX11_transitOf_83 : decode cX11_transitOf 83 = .ok (.iload_n 3, 1) := by decide +kernel
theorem dX11_transitOf_84 : decode cX11_transitOf 84 = .ok (.ireturn, 1) := by decide +kernel
theorem dX11_valueOf_0 : decode cX11_valueOf 0 = .ok (.aload_n 0, 1) := by decide +kernel
theorem dX11_valueOf_1 : decode cX11_valueOf 1 = .ok (.getfield 23, 3) := by decide +kernel
theorem dX11_valueOf_4 : decode cX11_valueOf 4 = .ok (.iload_n 1, 1) := by decide +kernel
theorem dX11_valueOf_5 : decode cX11_valueOf 5 = .ok (.iaload, 1) := by decide +kernel
theorem dX11_valueOf_6 : decode cX11_valueOf 6 = .ok (.istore_n 3, 1) := by decide +kernel
theorem dX11_valueOf_7 : decode cX11_valueOf 7 = .ok (.aload_n 0, 1) := by decide +kernel
theorem dX11_valueOf_8 : decode cX11_valueOf 8 = .ok (.getfield 20, 3) := by decide +kernel
theorem dX11_valueOf_11 : decode cX11_valueOf 11 = .ok (.iload_n 1, 1) := by decide +kernel
theorem dX11_valueOf_12 : decode cX11_valueOf 12 = .ok (.iaload, 1) := by decide +kernel
theorem dX11_valueOf_13 : decode cX11_valueOf 13 = .ok (.bipush 7, 2) := by decide +kernel
theorem dX11_valueOf_15 : decode cX11_valueOf 15 = .ok (.if_icmp .le 12, 3) := by decide +kernel
theorem dX11_valueOf_18 : decode cX11_valueOf 18 = .ok (.aload_n 0, 1) := by decide +kernel
theorem dX11_valueOf_19 : decode cX11_valueOf 19 = .ok (.iload_n 3, 1) := by decide +kernel
theorem dX11_valueOf_20 : decode cX11_valueOf 20 = .ok (.iload_n 2, 1) := by decide +kernel
theorem dX11_valueOf_21 : decode cX11_valueOf 21 = .ok (.invokevirtual 200, 3) := by decide +kernel
theorem dX11_valueOf_24 : decode cX11_valueOf 24 = .ok (.goto 4, 3) := by decide +kernel
theorem dX11_valueOf_27 : decode cX11_valueOf 27 = .ok (.iconst 0, 1) := by decide +kernel
theorem dX11_valueOf_28 : decode cX11_valueOf 28 = .ok (.istore 4, 2) := by decide +kernel
theorem dX11_valueOf_30 : decode cX11_valueOf 30 = .ok (.iconst 0, 1) := by decide +kernel
theorem dX11_valueOf_31 : decode cX11_valueOf 31 = .ok (.istore 5, 2) := by decide +kernel
theorem dX11_valueOf_33 : decode cX11_valueOf 33 = .ok (.iload 5, 2) := by decide +kernel
theorem dX11_valueOf_35 : decode cX11_valueOf 35 = .ok (.aload_n 0, 1) := by decide +kernel
theorem dX11_valueOf_36 : decode cX11_valueOf 36 = .ok (.getfield 79, 3) := by decide +kernel
theorem dX11_valueOf_39 : decode cX11_valueOf 39 = .ok (.if_icmp .ge 79, 3) := by decide +kernel
theorem dX11_valueOf_42 : decode cX11_valueOf 42 = .ok (.aload_n 0, 1) := by decide +kernel
theorem dX11_valueOf_43 : decode cX11_valueOf 43 = .ok (.getfield 20, 3) := by decide +kernel
theorem dX11_valueOf_46 : decode cX11_valueOf 46 = .ok (.iload_n 1, 1) := by decide +kernel
theorem dX11_valueOf_47 : decode cX11_valueOf 47 = .ok (.iaload, 1) := by decide +kernel
theorem dX11_valueOf_48 : decode cX11_valueOf 48 = .ok (.bipush 8, 2) := by decide +kernel
theorem dX11_valueOf_50 : decode cX11_valueOf 50 = .ok (.if_icmp .eq 14, 3) := by decide +kernel
theorem dX11_valueOf_53 : decode cX11_valueOf 53 = .ok (.aload_n 0, 1) := by decide +kernel
theorem dX11_valueOf_54 : decode cX11_valueOf 54 = .ok (.getfield 20, 3) := by decide +kernel
theorem dX11_valueOf_57 : decode cX11_valueOf 57 = .ok (.iload_n 1, 1) := by decide +kernel
theorem dX11_valueOf_58 : decode cX11_valueOf 58 = .ok (.iaload, 1) := by decide +kernel
theorem dX11_valueOf_59 : decode cX11_valueOf 59 = .ok (.iload 5, 2) := by decide +kernel
theorem dX11_valueOf_61 : decode cX11_valueOf 61 = .ok (.if_icmp .ne 7, 3) := by decide +kernel
theorem dX11_valueOf_64 : decode cX11_valueOf 64 = .ok (.iconst 1, 1) := by decide +kernel
theorem dX11_valueOf_65 : decode cX11_valueOf 65 = .ok (.goto 4, 3) := by decide +kernel
theorem dX11_valueOf_68 : decode cX11_valueOf 68 = .ok (.iconst 0, 1) := by decide +kernel
theorem dX11_valueOf_69 : decode cX11_valueOf 69 = .ok (.istore 6, 2) := by decide +kernel
theorem dX11_valueOf_71 : decode cX11_valueOf 71 = .ok (.iload 4, 2) := by decide +kernel
theorem dX11_valueOf_73 : decode cX11_valueOf 73 = .ok (.iload 6, 2) := by decide +kernel
theorem dX11_valueOf_75 : decode cX11_valueOf 75 = .ok (.ifCond .ne 7, 3) := by decide +kernel
theorem dX11_valueOf_78 : decode cX11_valueOf 78 = .ok (.iconst 0, 1) := by decide +kernel
theorem dX11_valueOf_79 : decode cX11_valueOf 79 = .ok (.goto 30, 3) := by decide +kernel
theorem dX11_valueOf_82 : decode cX11_valueOf 82 = .ok (.iload_n 2, 1) := by decide +kernel
theorem dX11_valueOf_83 : decode cX11_valueOf 83 = .ok (.ifCond .eq 13, 3) := by decide +kernel
theorem dX11_valueOf_86 : decode cX11_valueOf 86 = .ok (.aload_n 0, 1) := by decide +kernel
theorem dX11_valueOf_87 : decode cX11_valueOf 87 = .ok (.iload 5, 2) := by decide +kernel
theorem dX11_valueOf_89 : decode cX11_valueOf 89 = .ok (.iload_n 3, 1) := by decide +kernel
theorem dX11_valueOf_90 : decode cX11_valueOf 90 = .ok (.invokevirtual 181, 3) := by decide +kernel
theorem dX11_valueOf_93 : decode cX11_valueOf 93 = .ok (.goto 16, 3) := by decide +kernel
theorem dX11_valueOf_96 : decode cX11_valueOf 96 = .ok (.aload_n 0, 1) := by decide +kernel
theorem dX11_valueOf_97 : decode cX11_valueOf 97 = .ok (.getfield 7, 3) := by decide +kernel
theorem dX11_valueOf_100 : decode cX11_valueOf 100 = .ok (.iconst 0, 1) := by decide +kernel
theorem dX11_valueOf_101 : decode cX11_valueOf 101 = .ok (.iconst 2, 1) := by decide +kernel
theorem dX11_valueOf_102 : decode cX11_valueOf 102 = .ok (.iload 5, 2) := by decide +kernel
theorem dX11_valueOf_104 : decode cX11_valueOf 104 = .ok (.imul, 1) := by decide +kernel
theorem dX11_valueOf_105 : decode cX11_valueOf 105 = .ok (.iadd, 1) := by decide +kernel
theorem dX11_valueOf_106 : decode cX11_valueOf 106 = .ok (.iload_n 3, 1) := by decide +kernel
theorem dX11_valueOf_107 : decode cX11_valueOf 107 = .ok (.iadd, 1) := by decide +kernel
theorem dX11_valueOf_108 : decode cX11_valueOf 108 = .ok (.iaload, 1) := by decide +kernel
theorem dX11_valueOf_109 : decode cX11_valueOf 109 = .ok (.iadd, 1) := by decide +kernel
theorem dX11_valueOf_110 : decode cX11_valueOf 110 = .ok (.istore 4, 2) := by decide +kernel
theorem dX11_valueOf_112 : decode cX11_valueOf 112 = .ok (.iinc 5 1, 3) := by decide +kernel
theorem dX11_valueOf_115 : decode cX11_valueOf 115 = .ok (.goto (-82), 3) := by decide +kernel
theorem dX11_valueOf_118 : decode cX11_valueOf 118 = .ok (.iload 4, 2) := by decide +kernel
theorem dX11_valueOf_120 : decode cX11_valueOf 120 = .ok (.ireturn, 1) := by decide +kernel
theorem dX11_brokenNow_0 : decode cX11_brokenNow 0 = .ok (.iconst 0, 1) := by decide +kernel
theorem dX11_brokenNow_1 : decode cX11_brokenNow 1 = .ok (.istore_n 2, 1) := by decide +kernel
theorem dX11_brokenNow_2 : decode cX11_brokenNow 2 = .ok (.iconst 0, 1) := by decide +kernel
theorem dX11_brokenNow_3 : decode cX11_brokenNow 3 = .ok (.istore_n 3, 1) := by decide +kernel
theorem dX11_brokenNow_4 : decode cX11_brokenNow 4 = .ok (.iload_n 3, 1) := by decide +kernel
theorem dX11_brokenNow_5 : decode cX11_brokenNow 5 = .ok (.aload_n 0, 1) := by decide +kernel
theorem dX11_brokenNow_6 : decode cX11_brokenNow 6 = .ok (.getfield 90, 3) := by decide +kernel
theorem dX11_brokenNow_9 : decode cX11_brokenNow 9 = .ok (.if_icmp .ge 33, 3) := by decide +kernel
theorem dX11_brokenNow_12 : decode cX11_brokenNow 12 = .ok (.iload_n 2, 1) := by decide +kernel
theorem dX11_brokenNow_13 : decode cX11_brokenNow 13 = .ok (.aload_n 0, 1) := by decide +kernel
theorem dX11_brokenNow_14 : decode cX11_brokenNow 14 = .ok (.iload_n 3, 1) := by decide +kernel
theorem dX11_brokenNow_15 : decode cX11_brokenNow 15 = .ok (.aload_n 0, 1) := by decide +kernel
theorem dX11_brokenNow_16 : decode cX11_brokenNow 16 = .ok (.iload_n 3, 1) := by decide +kernel
theorem dX11_brokenNow_17 : decode cX11_brokenNow 17 = .ok (.iload_n 1, 1) := by decide +kernel
theorem dX11_brokenNow_18 : decode cX11_brokenNow 18 = .ok (.invokevirtual 204, 3) := by decide +kernel
theorem dX11_brokenNow_21 : decode cX11_brokenNow 21 = .ok (.invokevirtual 207, 3) := by decide +kernel
theorem dX11_brokenNow_24 : decode cX11_brokenNow 24 = .ok (.ifCond .eq 7, 3) := by decide +kernel
theorem dX11_brokenNow_27 : decode cX11_brokenNow 27 = .ok (.iconst 0, 1) := by decide +kernel
theorem dX11_brokenNow_28 : decode cX11_brokenNow 28 = .ok (.goto 6, 3) := by decide +kernel
theorem dX11_brokenNow_31 : decode cX11_brokenNow 31 = .ok (.iconst 1, 1) := by decide +kernel
theorem dX11_brokenNow_32 : decode cX11_brokenNow 32 = .ok (.iload_n 3, 1) := by decide +kernel
theorem dX11_brokenNow_33 : decode cX11_brokenNow 33 = .ok (.ishl, 1) := by decide +kernel
theorem dX11_brokenNow_34 : decode cX11_brokenNow 34 = .ok (.ior, 1) := by decide +kernel
theorem dX11_brokenNow_35 : decode cX11_brokenNow 35 = .ok (.istore_n 2, 1) := by decide +kernel
theorem dX11_brokenNow_36 : decode cX11_brokenNow 36 = .ok (.iinc 3 1, 3) := by decide +kernel
theorem dX11_brokenNow_39 : decode cX11_brokenNow 39 = .ok (.goto (-35), 3) := by decide +kernel
theorem dX11_brokenNow_42 : decode cX11_brokenNow 42 = .ok (.iload_n 2, 1) := by decide +kernel
theorem dX11_brokenNow_43 : decode cX11_brokenNow 43 = .ok (.ireturn, 1) := by decide +kernel
theorem dX11_broken_0 : decode cX11_broken 0 = .ok (.iload_n 1, 1) := by decide +kernel
theorem dX11_broken_1 : decode cX11_broken 1 = .ok (.ifCond .eq 15, 3) := by decide +kernel
theorem dX11_broken_4 : decode cX11_broken 4 = .ok (.aload_n 0, 1) := by decide +kernel
theorem dX11_broken_5 : decode cX11_broken 5 = .ok (.invokevirtual 178, 3) := by decide +kernel
theorem dX11_broken_8 : decode cX11_broken 8 = .ok (.ifCond .le 8, 3) := by decide +kernel
theorem dX11_broken_11 : decode cX11_broken 11 = .ok (.ldc 125, 2) := by decide +kernel
theorem dX11_broken_13 : decode cX11_broken 13 = .ok (.goto 8, 3) := by decide +kernel
theorem dX11_broken_16 : decode cX11_broken 16 = .ok (.aload_n 0, 1) := by decide +kernel
theorem dX11_broken_17 : decode cX11_broken 17 = .ok (.iload_n 1, 1) := by decide +kernel
theorem dX11_broken_18 : decode cX11_broken 18 = .ok (.invokevirtual 210, 3) := by decide +kernel
theorem dX11_broken_21 : decode cX11_broken 21 = .ok (.ireturn, 1) := by decide +kernel
theorem dX11_setMoveCost_0 : decode cX11_setMoveCost 0 = .ok (.aload_n 0, 1) := by decide +kernel
theorem dX11_setMoveCost_1 : decode cX11_setMoveCost 1 = .ok (.iload_n 1, 1) := by decide +kernel
theorem dX11_setMoveCost_2 : decode cX11_setMoveCost 2 = .ok (.iload_n 2, 1) := by decide +kernel
theorem dX11_setMoveCost_3 : decode cX11_setMoveCost 3 = .ok (.invokevirtual 142, 3) := by decide +kernel
theorem dX11_setMoveCost_6 : decode cX11_setMoveCost 6 = .ok (.ifCond .eq 6, 3) := by decide +kernel
theorem dX11_setMoveCost_9 : decode cX11_setMoveCost 9 = .ok (.ldc 112, 2) := by decide +kernel
theorem dX11_setMoveCost_11 : decode cX11_setMoveCost 11 = .ok (.ireturn, 1) := by decide +kernel
theorem dX11_setMoveCost_12 : decode cX11_setMoveCost 12 = .ok (.iload_n 3, 1) := by decide +kernel
theorem dX11_setMoveCost_13 : decode cX11_setMoveCost 13 = .ok (.iconst 1, 1) := by decide +kernel
theorem dX11_setMoveCost_14 : decode cX11_setMoveCost 14 = .ok (.sipush 1000, 3) := by decide +kernel
theorem dX11_setMoveCost_17 : decode cX11_setMoveCost 17 = .ok (.invokestatic 99, 3) := by decide +kernel
theorem dX11_setMoveCost_20 : decode cX11_setMoveCost 20 = .ok (.ifCond .ne 6, 3) := by decide +kernel
theorem dX11_setMoveCost_23 : decode cX11_setMoveCost 23 = .ok (.ldc 103, 2) := by decide +kernel
theorem dX11_setMoveCost_25 : decode cX11_setMoveCost 25 = .ok (.ireturn, 1) := by decide +kernel
theorem dX11_setMoveCost_26 : decode cX11_setMoveCost 26 = .ok (.aload_n 0, 1) := by decide +kernel
theorem dX11_setMoveCost_27 : decode cX11_setMoveCost 27 = .ok (.getfield 32, 3) := by decide +kernel
theorem dX11_setMoveCost_30 : decode cX11_setMoveCost 30 = .ok (.iconst 5, 1) := by decide +kernel
theorem dX11_setMoveCost_31 : decode cX11_setMoveCost 31 = .ok (.iload_n 1, 1) := by decide +kernel
theorem dX11_setMoveCost_32 : decode cX11_setMoveCost 32 = .ok (.imul, 1) := by decide +kernel
theorem dX11_setMoveCost_33 : decode cX11_setMoveCost 33 = .ok (.iload_n 2, 1) := by decide +kernel
theorem dX11_setMoveCost_34 : decode cX11_setMoveCost 34 = .ok (.iadd, 1) := by decide +kernel
theorem dX11_setMoveCost_35 : decode cX11_setMoveCost 35 = .ok (.iaload, 1) := by decide +kernel
theorem dX11_setMoveCost_36 : decode cX11_setMoveCost 36 = .ok (.istore 4, 2) := by decide +kernel
theorem dX11_setMoveCost_38 : decode cX11_setMoveCost 38 = .ok (.aload_n 0, 1) := by decide +kernel
theorem dX11_setMoveCost_39 : decode cX11_setMoveCost 39 = .ok (.getfield 32, 3) := by decide +kernel
theorem dX11_setMoveCost_42 : decode cX11_setMoveCost 42 = .ok (.iconst 5, 1) := by decide +kernel
theorem dX11_setMoveCost_43 : decode cX11_setMoveCost 43 = .ok (.iload_n 1, 1) := by decide +kernel
theorem dX11_setMoveCost_44 : decode cX11_setMoveCost 44 = .ok (.imul, 1) := by decide +kernel
theorem dX11_setMoveCost_45 : decode cX11_setMoveCost 45 = .ok (.iload_n 2, 1) := by decide +kernel
theorem dX11_setMoveCost_46 : decode cX11_setMoveCost 46 = .ok (.iadd, 1) := by decide +kernel
theorem dX11_setMoveCost_47 : decode cX11_setMoveCost 47 = .ok (.iload_n 3, 1) := by decide +kernel
theorem dX11_setMoveCost_48 : decode cX11_setMoveCost 48 = .ok (.iastore, 1) := by decide +kernel
theorem dX11_setMoveCost_49 : decode cX11_setMoveCost 49 = .ok (.iload 4, 2) := by decide +kernel
theorem dX11_setMoveCost_51 : decode cX11_setMoveCost 51 = .ok (.ireturn, 1) := by decide +kernel
theorem dX11_setOutsideCosts_0 : decode cX11_setOutsideCosts 0 = .ok (.iload_n 1, 1) := by decide +kernel
theorem dX11_setOutsideCosts_1 : decode cX11_setOutsideCosts 1 = .ok (.iconst 1, 1) := by decide +kernel
theorem dX11_setOutsideCosts_2 : decode cX11_setOutsideCosts 2 = .ok (.sipush 1000, 3) := by decide +kernel
theorem dX11_setOutsideCosts_5 : decode cX11_setOutsideCosts 5 = .ok (.invokestatic 99, 3) := by decide +kernel
theorem dX11_setOutsideCosts_8 : decode cX11_setOutsideCosts 8 = .ok (.ifCond .eq 14, 3) := by decide +kernel
theorem dX11_setOutsideCosts_11 : decode cX11_setOutsideCosts 11 = .ok (.iload_n 2, 1) := by decide +kernel
theorem dX11_setOutsideCosts_12 : decode cX11_setOutsideCosts 12 = .ok (.iconst 1, 1) := by decide +kernel
theorem dX11_setOutsideCosts_13 : decode cX11_setOutsideCosts 13 = .ok (.sipush 1000, 3) := by decide +kernel
theorem dX11_setOutsideCosts_16 : decode cX11_setOutsideCosts 16 = .ok (.invokestatic 99, 3) := by decide +kernel
theorem dX11_setOutsideCosts_19 : decode cX11_setOutsideCosts 19 = .ok (.ifCond .ne 6, 3) := by decide +kernel
theorem dX11_setOutsideCosts_22 : decode cX11_setOutsideCosts 22 = .ok (.ldc 103, 2) := by decide +kernel
theorem dX11_setOutsideCosts_24 : decode cX11_setOutsideCosts 24 = .ok (.ireturn, 1) := by decide +kernel
theorem dX11_setOutsideCosts_25 : decode cX11_setOutsideCosts 25 = .ok (.aload_n 0, 1) := by decide +kernel
theorem dX11_setOutsideCosts_26 : decode cX11_setOutsideCosts 26 = .ok (.getfield 93, 3) := by decide +kernel
theorem dX11_setOutsideCosts_29 : decode cX11_setOutsideCosts 29 = .ok (.iload_n 1, 1) := by decide +kernel
theorem dX11_setOutsideCosts_30 : decode cX11_setOutsideCosts 30 = .ok (.if_icmp .ne 11, 3) := by decide +kernel
theorem dX11_setOutsideCosts_33 : decode cX11_setOutsideCosts 33 = .ok (.aload_n 0, 1) := by decide +kernel
theorem dX11_setOutsideCosts_34 : decode cX11_setOutsideCosts 34 = .ok (.getfield 96, 3) := by decide +kernel
theorem dX11_setOutsideCosts_37 : decode cX11_setOutsideCosts 37 = .ok (.iload_n 2, 1) := by decide +kernel
theorem dX11_setOutsideCosts_38 : decode cX11_setOutsideCosts 38 = .ok (.if_icmp .eq 7, 3) := by decide +kernel
theorem dX11_setOutsideCosts_41 : decode cX11_setOutsideCosts 41 = .ok (.iconst 1, 1) := by decide +kernel
theorem dX11_setOutsideCosts_42 : decode cX11_setOutsideCosts 42 = .ok (.goto 4, 3) := by decide +kernel
theorem dX11_setOutsideCosts_45 : decode cX11_setOutsideCosts 45 = .ok (.iconst 0, 1) := by decide +kernel
theorem dX11_setOutsideCosts_46 : decode cX11_setOutsideCosts 46 = .ok (.istore_n 3, 1) := by decide +kernel
theorem dX11_setOutsideCosts_47 : decode cX11_setOutsideCosts 47 = .ok (.aload_n 0, 1) := by decide +kernel
theorem dX11_setOutsideCosts_48 : decode cX11_setOutsideCosts 48 = .ok (.iload_n 1, 1) := by decide +kernel
theorem dX11_setOutsideCosts_49 : decode cX11_setOutsideCosts 49 = .ok (.putfield 93, 3) := by decide +kernel
theorem dX11_setOutsideCosts_52 : decode cX11_setOutsideCosts 52 = .ok (.aload_n 0, 1) := by decide +kernel
theorem dX11_setOutsideCosts_53 : decode cX11_setOutsideCosts 53 = .ok (.iload_n 2, 1) := by decide +kernel
theorem dX11_setOutsideCosts_54 : decode cX11_setOutsideCosts 54 = .ok (.putfield 96, 3) := by decide +kernel
theorem dX11_setOutsideCosts_57 : decode cX11_setOutsideCosts 57 = .ok (.iload_n 3, 1) := by decide +kernel
theorem dX11_setOutsideCosts_58 : decode cX11_setOutsideCosts 58 = .ok (.ireturn, 1) := by decide +kernel
theorem dX11_edge_0 : decode cX11_edge 0 = .ok (.aload_n 0, 1) := by decide +kernel
theorem dX11_edge_1 : decode cX11_edge 1 = .ok (.getfield 35, 3) := by decide +kernel
theorem dX11_edge_4 : decode cX11_edge 4 = .ok (.aload_n 0, 1) := by decide +kernel
theorem dX11_edge_5 : decode cX11_edge 5 = .ok (.getfield 214, 3) := by decide +kernel
theorem dX11_edge_8 : decode cX11_edge 8 = .ok (.iload_n 1, 1) := by decide +kernel
theorem dX11_edge_9 : decode cX11_edge 9 = .ok (.iastore, 1) := by decide +kernel
theorem dX11_edge_10 : decode cX11_edge 10 = .ok (.aload_n 0, 1) := by decide +kernel
theorem dX11_edge_11 : decode cX11_edge 11 = .ok (.getfield 38, 3) := by decide +kernel
theorem dX11_edge_14 : decode cX11_edge 14 = .ok (.aload_n 0, 1) := by decide +kernel
theorem dX11_edge_15 : decode cX11_edge 15 = .ok (.getfield 214, 3) := by decide +kernel
theorem dX11_edge_18 : decode cX11_edge 18 = .ok (.iload_n 2, 1) := by decide +kernel
theorem dX11_edge_19 : decode cX11_edge 19 = .ok (.iastore, 1) := by decide +kernel
theorem dX11_edge_20 : decode cX11_edge 20 = .ok (.aload_n 0, 1) := by decide +kernel
theorem dX11_edge_21 : decode cX11_edge 21 = .ok (.getfield 44, 3) := by decide +kernel
theorem dX11_edge_24 : decode cX11_edge 24 = .ok (.aload_n 0, 1) := by decide +kernel
theorem dX11_edge_25 : decode cX11_edge 25 = .ok (.getfield 214, 3) := by decide +kernel
theorem dX11_edge_28 : decode cX11_edge 28 = .ok (.iload_n 3, 1) := by decide +kernel
theorem dX11_edge_29 : decode cX11_edge 29 = .ok (.iastore, 1) := by decide +kernel
theorem dX11_edge_30 : decode cX11_edge 30 = .ok (.aload_n 0, 1) := by decide +kernel
theorem dX11_edge_31 : decode cX11_edge 31 = .ok (.getfield 41, 3) := by decide +kernel
theorem dX11_edge_34 : decode cX11_edge 34 = .ok (.aload_n 0, 1) := by decide +kernel
theorem dX11_edge_35 : decode cX11_edge 35 = .ok (.getfield 214, 3) := by decide +kernel
theorem dX11_edge_38 : decode cX11_edge 38 = .ok (.iload 4, 2) := by decide +kernel
theorem dX11_edge_40 : decode cX11_edge 40 = .ok (.iastore, 1) := by decide +kernel
theorem dX11_edge_41 : decode cX11_edge 41 = .ok (.aload_n 0, 1) := by decide +kernel
theorem dX11_edge_42 : decode cX11_edge 42 = .ok (.getfield 47, 3) := by decide +kernel
theorem dX11_edge_45 : decode cX11_edge 45 = .ok (.aload_n 0, 1) := by decide +kernel
theorem dX11_edge_46 : decode cX11_edge 46 = .ok (.getfield 214, 3) := by decide +kernel
theorem dX11_edge_49 : decode cX11_edge 49 = .ok (.iload 5, 2) := by decide +kernel
theorem dX11_edge_51 : decode cX11_edge 51 = .ok (.iastore, 1) := by decide +kernel
theorem dX11_edge_52 : decode cX11_edge 52 = .ok (.aload_n 0, 1) := by decide +kernel
theorem dX11_edge_53 : decode cX11_edge 53 = .ok (.getfield 50, 3) := by decide +kernel
theorem dX11_edge_56 : decode cX11_edge 56 = .ok (.aload_n 0, 1) := by decide +kernel
theorem dX11_edge_57 : decode cX11_edge 57 = .ok (.getfield 214, 3) := by decide +kernel
theorem dX11_edge_60 : decode cX11_edge 60 = .ok (.iload 6, 2) := by decide +kernel
theorem dX11_edge_62 : decode cX11_edge 62 = .ok (.iastore, 1) := by decide +kernel
theorem dX11_edge_63 : decode cX11_edge 63 = .ok (.aload_n 0, 1) := by decide +kernel
theorem dX11_edge_64 : decode cX11_edge 64 = .ok (.getfield 53, 3) := by decide +kernel
theorem dX11_edge_67 : decode cX11_edge 67 = .ok (.aload_n 0, 1) := by decide +kernel
theorem dX11_edge_68 : decode cX11_edge 68 = .ok (.getfield 214, 3) := by decide +kernel
theorem dX11_edge_71 : decode cX11_edge 71 = .ok (.iload_n 3, 1) := by decide +kernel
theorem dX11_edge_72 : decode cX11_edge 72 = .ok (.iastore, 1) := by decide +kernel
theorem dX11_edge_73 : decode cX11_edge 73 = .ok (.aload_n 0, 1) := by decide +kernel
theorem dX11_edge_74 : decode cX11_edge 74 = .ok (.getfield 56, 3) := by decide +kernel
theorem dX11_edge_77 : decode cX11_edge 77 = .ok (.iload_n 1, 1) := by decide +kernel
theorem dX11_edge_78 : decode cX11_edge 78 = .ok (.dup2, 1) := by decide +kernel
theorem dX11_edge_79 : decode cX11_edge 79 = .ok (.iaload, 1) := by decide +kernel
theorem dX11_edge_80 : decode cX11_edge 80 = .ok (.iload_n 3, 1) := by decide +kernel
theorem dX11_edge_81 : decode cX11_edge 81 = .ok (.isub, 1) := by decide +kernel
theorem dX11_edge_82 : decode cX11_edge 82 = .ok (.iastore, 1) := by decide +kernel
theorem dX11_edge_83 : decode cX11_edge 83 = .ok (.aload_n 0, 1) := by decide +kernel
theorem dX11_edge_84 : decode cX11_edge 84 = .ok (.getfield 56, 3) := by decide +kernel
theorem dX11_edge_87 : decode cX11_edge 87 = .ok (.iload_n 2, 1) := by decide +kernel
theorem dX11_edge_88 : decode cX11_edge 88 = .ok (.dup2, 1) := by decide +kernel
theorem dX11_edge_89 : decode cX11_edge 89 = .ok (.iaload, 1) := by decide +kernel
theorem dX11_edge_90 : decode cX11_edge 90 = .ok (.iload_n 3, 1) := by decide +kernel
theorem dX11_edge_91 : decode cX11_edge 91 = .ok (.iadd, 1) := by decide +kernel
theorem dX11_edge_92 : decode cX11_edge 92 = .ok (.iastore, 1) := by decide +kernel
theorem dX11_edge_93 : decode cX11_edge 93 = .ok (.aload_n 0, 1) := by decide +kernel
theorem dX11_edge_94 : decode cX11_edge 94 = .ok (.dup, 1) := by decide +kernel
theorem dX11_edge_95 : decode cX11_edge 95 = .ok (.getfield 214, 3) := by decide +kernel
theorem dX11_edge_98 : decode cX11_edge 98 = .ok (.iconst 1, 1) := by decide +kernel
theorem dX11_edge_99 : decode cX11_edge 99 = .ok (.iadd, 1) := by decide +kernel
theorem dX11_edge_100 : decode cX11_edge 100 = .ok (.putfield 214, 3) := by decide +kernel
theorem dX11_edge_103 : decode cX11_edge 103 = .ok (.return_, 1) := by decide +kernel
theorem dX11_findBounds_0 : decode cX11_findBounds 0 = .ok (.aload_n 0, 1) := by decide +kernel
theorem dX11_findBounds_1 : decode cX11_findBounds 1 = .ok (.iconst 0, 1) := by decide +kernel
theorem dX11_findBounds_2 : decode cX11_findBounds 2 = .ok (.putfield 217, 3) := by decide +kernel
theorem dX11_findBounds_5 : decode cX11_findBounds 5 = .ok (.aload_n 0, 1) := by decide +kernel
theorem dX11_findBounds_6 : decode cX11_findBounds 6 = .ok (.iload_n 3, 1) := by decide +kernel
theorem dX11_findBounds_7 : decode cX11_findBounds 7 = .ok (.putfield 220, 3) := by decide +kernel
theorem dX11_findBounds_10 : decode cX11_findBounds 10 = .ok (.iconst 0, 1) := by decide +kernel
theorem dX11_findBounds_11 : decode cX11_findBounds 11 = .ok (.istore 4, 2) := by decide +kernel
theorem dX11_findBounds_13 : decode cX11_findBounds 13 = .ok (.iload 4, 2) := by decide +kernel
theorem dX11_findBounds_15 : decode cX11_findBounds 15 = .ok (.aload_n 0, 1) := by decide +kernel
theorem dX11_findBounds_16 : decode cX11_findBounds 16 = .ok (.getfield 90, 3) := by decide +kernel
theorem dX11_findBounds_19 : decode cX11_findBounds 19 = .ok (.if_icmp .ge 133, 3) := by decide +kernel
theorem dX11_findBounds_22 : decode cX11_findBounds 22 = .ok (.aload_n 0, 1) := by decide +kernel
theorem dX11_findBounds_23 : decode cX11_findBounds 23 = .ok (.getfield 20, 3) := by decide +kernel
theorem dX11_findBounds_26 : decode cX11_findBounds 26 = .ok (.iload 4, 2) := by decide +kernel
theorem dX11_findBounds_28 : decode cX11_findBounds 28 = .ok (.iaload, 1) := by decide +kernel
theorem dX11_findBounds_29 : decode cX11_findBounds 29 = .ok (.iload_n 1, 1) := by decide +kernel
theorem dX11_findBounds_30 : decode cX11_findBounds 30 = .ok (.if_icmp .ne 18, 3) := by decide +kernel
theorem dX11_findBounds_33 : decode cX11_findBounds 33 = .ok (.aload_n 0, 1) := by decide +kernel
theorem dX11_findBounds_34 : decode cX11_findBounds 34 = .ok (.getfield 23, 3) := by decide +kernel
theorem dX11_findBounds_37 : decode cX11_findBounds 37 = .ok (.iload 4, 2) := by decide +kernel
theorem dX11_findBounds_39 : decode cX11_findBounds 39 = .ok (.iaload, 1) := by decide +kernel
theorem dX11_findBounds_40 : decode cX11_findBounds 40 = .ok (.iload_n 2, 1) := by decide +kernel
theorem dX11_findBounds_41 : decode cX11_findBounds 41 = .ok (.if_icmp .ne 7, 3) := by decide +kernel
theorem dX11_findBounds_44 : decode cX11_findBounds 44 = .ok (.iconst 1, 1) := by decide +kernel
theorem dX11_findBounds_45 : decode cX11_findBounds 45 = .ok (.goto 4, 3) := by decide +kernel
theorem dX11_findBounds_48 : decode cX11_findBounds 48 = .ok (.iconst 0, 1) := by decide +kernel
theorem dX11_findBounds_49 : decode cX11_findBounds 49 = .ok (.istore 5, 2) := by decide +kernel
theorem dX11_findBounds_51 : decode cX11_findBounds 51 = .ok (.aload_n 0, 1) := by decide +kernel
theorem dX11_findBounds_52 : decode cX11_findBounds 52 = .ok (.iload 5, 2) := by decide +kernel
theorem dX11_findBounds_54 : decode cX11_findBounds 54 = .ok (.ifCond .eq 37, 3) := by decide +kernel
theorem dX11_findBounds_57 : decode cX11_findBounds 57 = .ok (.aload_n 0, 1) := by decide +kernel
theorem dX11_findBounds_58 : decode cX11_findBounds 58 = .ok (.getfield 26, 3) := by decide +kernel
theorem dX11_findBounds_61 : decode cX11_findBounds 61 = .ok (.iload 4, 2) := by decide +kernel
theorem dX11_findBounds_63 : decode cX11_findBounds 63 = .ok (.iaload, 1) := by decide +kernel
theorem dX11_findBounds_64 : decode cX11_findBounds 64 = .ok (.ifCond .le 27, 3) := by decide +kernel
theorem dX11_findBounds_67 : decode cX11_findBounds 67 = .ok (.aload_n 0, 1) := by decide +kernel
theorem dX11_findBounds_68 : decode cX11_findBounds 68 = .ok (.getfield 29, 3) := by decide +kernel
theorem dX11_findBounds_71 : decode cX11_findBounds 71 = .ok (.iload 4, 2) := by decide +kernel
theorem dX11_findBounds_73 : decode cX11_findBounds 73 = .ok (.iaload, 1) := by decide +kernel
theorem dX11_findBounds_74 : decode cX11_findBounds 74 = .ok (.aload_n 0, 1) := by decide +kernel
theorem dX11_findBounds_75 : decode cX11_findBounds 75 = .ok (.getfield 217, 3) := by decide +kernel
theorem dX11_findBounds_78 : decode cX11_findBounds 78 = .ok (.if_icmp .le 13, 3) := by decide +kernel
theorem dX11_findBounds_81 : decode cX11_findBounds 81 = .ok (.aload_n 0, 1) := by decide +kernel
theorem dX11_findBounds_82 : decode cX11_findBounds 82 = .ok (.getfield 29, 3) := by decide +kernel
theorem dX11_findBounds_85 : decode cX11_findBounds 85 = .ok (.iload 4, 2) := by decide +kernel
theorem dX11_findBounds_87 : decode cX11_findBounds 87 = .ok (.iaload, 1) := by decide +kernel
theorem dX11_findBounds_88 : decode cX11_findBounds 88 = .ok (.goto 7, 3) := by decide +kernel
theorem dX11_findBounds_91 : decode cX11_findBounds 91 = .ok (.aload_n 0, 1) := by decide +kernel
theorem dX11_findBounds_92 : decode cX11_findBounds 92 = .ok (.getfield 217, 3) := by decide +kernel
theorem dX11_findBounds_95 : decode cX11_findBounds 95 = .ok (.putfield 217, 3) := by decide +kernel
theorem dX11_findBounds_98 : decode cX11_findBounds 98 = .ok (.aload_n 0, 1) := by decide +kernel
theorem dX11_findBounds_99 : decode cX11_findBounds 99 = .ok (.iload 5, 2) := by decide +kernel
theorem dX11_findBounds_101 : decode cX11_findBounds 101 = .ok (.ifCond .eq 38, 3) := by decide +kernel
theorem dX11_findBounds_104 : decode cX11_findBounds 104 = .ok (.aload_n 0, 1) := by decide +kernel
theorem dX11_findBounds_105 : decode cX11_findBounds 105 = .ok (.getfield 26, 3) := by decide +kernel
theorem dX11_findBounds_108 : decode cX11_findBounds 108 = .ok (.iload 4, 2) := by decide +kernel
theorem dX11_findBounds_110 : decode cX11_findBounds 110 = .ok (.iaload, 1) := by decide +kernel
theorem dX11_findBounds_111 : decode cX11_findBounds 111 = .ok (.iconst 1, 1) := by decide +kernel
theorem dX11_findBounds_112 : decode cX11_findBounds 112 = .ok (.if_icmp .eq 27, 3) := by decide +kernel
theorem dX11_findBounds_115 : decode cX11_findBounds 115 = .ok (.aload_n 0, 1) := by decide +kernel
theorem dX11_findBounds_116 : decode cX11_findBounds 116 = .ok (.getfield 29, 3) := by decide +kernel
theorem dX11_findBounds_119 : decode cX11_findBounds 119 = .ok (.iload 4, 2) := by decide +kernel
theorem dX11_findBounds_121 : decode cX11_findBounds 121 = .ok (.iaload, 1) := by decide +kernel
theorem dX11_findBounds_122 : decode cX11_findBounds 122 = .ok (.aload_n 0, 1) := by decide +kernel
theorem dX11_findBounds_123 : decode cX11_findBounds 123 = .ok (.getfield 220, 3) := by decide +kernel
theorem dX11_findBounds_126 : decode cX11_findBounds 126 = .ok (.if_icmp .ge 13, 3) := by decide +kernel
theorem dX11_findBounds_129 : decode cX11_findBounds 129 = .ok (.aload_n 0, 1) := by decide +kernel
theorem dX11_findBounds_130 : decode cX11_findBounds 130 = .ok (.getfield 29, 3) := by decide +kernel
theorem dX11_findBounds_133 : decode cX11_findBounds 133 = .ok (.iload 4, 2) := by decide +kernel
theorem dX11_findBounds_135 : decode cX11_findBounds 135 = .ok (.iaload, 1) := by decide +kernel
theorem dX11_findBounds_136 : decode cX11_findBounds 136 = .ok (.goto 7, 3) := by decide +kernel
theorem dX11_findBounds_139 : decode cX11_findBounds 139 = .ok (.aload_n 0, 1) := by decide +kernel
theorem dX11_findBounds_140 : decode cX11_findBounds 140 = .ok (.getfield 220, 3) := by decide +kernel
theorem dX11_findBounds_143 : decode cX11_findBounds 143 = .ok (.putfield 220, 3) := by decide +kernel
theorem dX11_findBounds_146 : decode cX11_findBounds 146 = .ok (.iinc 4 1, 3) := by decide +kernel
theorem dX11_findBounds_149 : decode cX11_findBounds 149 = .ok (.goto (-136), 3) := by decide +kernel
theorem dX11_findBounds_152 : decode cX11_findBounds 152 = .ok (.return_, 1) := by decide +kernel
theorem dX11_layEdges_0 : decode cX11_layEdges 0 = .ok (.aload_n 0, 1) := by decide +kernel
theorem dX11_layEdges_1 : decode cX11_layEdges 1 = .ok (.getfield 79, 3) := by decide +kernel
theorem dX11_layEdges_4 : decode cX11_layEdges 4 = .ok (.istore_n 2, 1) := by decide +kernel
theorem dX11_layEdges_5 : decode cX11_layEdges 5 = .ok (.aload_n 0, 1) := by decide +kernel
theorem dX11_layEdges_6 : decode cX11_layEdges 6 = .ok (.iconst 0, 1) := by decide +kernel
theorem dX11_layEdges_7 : decode cX11_layEdges 7 = .ok (.putfield 214, 3) := by decide +kernel
theorem dX11_layEdges_10 : decode cX11_layEdges 10 = .ok (.iconst 0, 1) := by decide +kernel
theorem dX11_layEdges_11 : decode cX11_layEdges 11 = .ok (.istore_n 3, 1) := by decide +kernel
theorem dX11_layEdges_12 : decode cX11_layEdges 12 = .ok (.iload_n 3, 1) := by decide +kernel
theorem dX11_layEdges_13 : decode cX11_layEdges 13 = .ok (.bipush 7, 2) := by decide +kernel
theorem dX11_layEdges_15 : decode cX11_layEdges 15 = .ok (.if_icmp .ge 16, 3) := by decide +kernel
theorem dX11_layEdges_18 : decode cX11_layEdges 18 = .ok (.aload_n 0, 1) := by decide +kernel
theorem dX11_layEdges_19 : decode cX11_layEdges 19 = .ok (.getfield 56, 3) := by decide +kernel
theorem dX11_layEdges_22 : decode cX11_layEdges 22 = .ok (.iload_n 3, 1) := by decide +kernel
theorem dX11_layEdges_23 : decode cX11_layEdges 23 = .ok (.iconst 0, 1) := by decide +kernel
theorem dX11_layEdges_24 : decode cX11_layEdges 24 = .ok (.iastore, 1) := by decide +kernel
theorem dX11_layEdges_25 : decode cX11_layEdges 25 = .ok (.iinc 3 1, 3) := by decide +kernel
theorem dX11_layEdges_28 : decode cX11_layEdges 28 = .ok (.goto (-16), 3) := by decide +kernel
theorem dX11_layEdges_31 : decode cX11_layEdges 31 = .ok (.aload_n 0, 1) := by decide +kernel
theorem dX11_layEdges_32 : decode cX11_layEdges 32 = .ok (.iload_n 1, 1) := by decide +kernel
theorem dX11_layEdges_33 : decode cX11_layEdges 33 = .ok (.iconst 1, 1) := by decide +kernel
theorem dX11_layEdges_34 : decode cX11_layEdges 34 = .ok (.invokevirtual 200, 3) := by decide +kernel
theorem dX11_layEdges_37 : decode cX11_layEdges 37 = .ok (.istore_n 3, 1) := by decide +kernel
theorem dX11_layEdges_38 : decode cX11_layEdges 38 = .ok (.aload_n 0, 1) := by decide +kernel
theorem dX11_layEdges_39 : decode cX11_layEdges 39 = .ok (.bipush 9, 2) := by decide +kernel
theorem dX11_layEdges_41 : decode cX11_layEdges 41 = .ok (.iload_n 1, 1) := by decide +kernel
theorem dX11_layEdges_42 : decode cX11_layEdges 42 = .ok (.ldc 223, 2) := by decide +kernel
theorem dX11_layEdges_44 : decode cX11_layEdges 44 = .ok (.invokevirtual 224, 3) := by decide +kernel
theorem dX11_layEdges_47 : decode cX11_layEdges 47 = .ok (.iload_n 3, 1) := by decide +kernel
theorem dX11_layEdges_48 : decode cX11_layEdges 48 = .ok (.aload_n 0, 1) := by decide +kernel
theorem dX11_layEdges_49 : decode cX11_layEdges 49 = .ok (.getfield 217, 3) := by decide +kernel
theorem dX11_layEdges_52 : decode cX11_layEdges 52 = .ok (.aload_n 0, 1) := by decide +kernel
theorem dX11_layEdges_53 : decode cX11_layEdges 53 = .ok (.getfield 220, 3) := by decide +kernel
theorem dX11_layEdges_56 : decode cX11_layEdges 56 = .ok (.invokestatic 99, 3) := by decide +kernel
theorem dX11_layEdges_59 : decode cX11_layEdges 59 = .ok (.istore 4, 2) := by decide +kernel
theorem dX11_layEdges_61 : decode cX11_layEdges 61 = .ok (.iconst 0, 1) := by decide +kernel
theorem dX11_layEdges_62 : decode cX11_layEdges 62 = .ok (.istore 5, 2) := by decide +kernel
theorem dX11_layEdges_64 : decode cX11_layEdges 64 = .ok (.iconst 0, 1) := by decide +kernel
theorem dX11_layEdges_65 : decode cX11_layEdges 65 = .ok (.istore 6, 2) := by decide +kernel
theorem dX11_layEdges_67 : decode cX11_layEdges 67 = .ok (.iload 6, 2) := by decide +kernel
theorem dX11_layEdges_69 : decode cX11_layEdges 69 = .ok (.iload_n 2, 1) := by decide +kernel
theorem dX11_layEdges_70 : decode cX11_layEdges 70 = .ok (.iload_n 2, 1) := by decide +kernel
theorem dX11_layEdges_71 : decode cX11_layEdges 71 = .ok (.imul, 1) := by decide +kernel
theorem dX11_layEdges_72 : decode cX11_layEdges 72 = .ok (.if_icmp .ge 56, 3) := by decide +kernel
theorem dX11_layEdges_75 : decode cX11_layEdges 75 = .ok (.iload 6, 2) := by decide +kernel
theorem dX11_layEdges_77 : decode cX11_layEdges 77 = .ok (.iload_n 2, 1) := by decide +kernel
theorem dX11_layEdges_78 : decode cX11_layEdges 78 = .ok (.idiv, 1) := by decide +kernel
theorem dX11_layEdges_79 : decode cX11_layEdges 79 = .ok (.iload 6, 2) := by decide +kernel
theorem dX11_layEdges_81 : decode cX11_layEdges 81 = .ok (.iload_n 2, 1) := by decide +kernel
theorem dX11_layEdges_82 : decode cX11_layEdges 82 = .ok (.irem, 1) := by decide +kernel
theorem dX11_layEdges_83 : decode cX11_layEdges 83 = .ok (.if_icmp .eq 39, 3) := by decide +kernel
theorem dX11_layEdges_86 : decode cX11_layEdges 86 = .ok (.aload_n 0, 1) := by decide +kernel
theorem dX11_layEdges_87 : decode cX11_layEdges 87 = .ok (.iload 6, 2) := by decide +kernel
theorem dX11_layEdges_89 : decode cX11_layEdges 89 = .ok (.iload_n 2, 1) := by decide +kernel
theorem dX11_layEdges_90 : decode cX11_layEdges 90 = .ok (.idiv, 1) := by decide +kernel
theorem dX11_layEdges_91 : decode cX11_layEdges 91 = .ok (.iload 6, 2) := by decide +kernel
theorem dX11_layEdges_93 : decode cX11_layEdges 93 = .ok (.iload_n 2, 1) := by decide +kernel
theorem dX11_layEdges_94 : decode cX11_layEdges 94 = .ok (.irem, 1) := by decide +kernel
theorem dX11_layEdges_95 : decode cX11_layEdges 95 = .ok (.iconst 0, 1) := by decide +kernel
theorem dX11_layEdges_96 : decode cX11_layEdges 96 = .ok (.ldc 223, 2) := by decide +kernel
theorem dX11_layEdges_98 : decode cX11_layEdges 98 = .ok (.aload_n 0, 1) := by decide +kernel
theorem dX11_layEdges_99 : decode cX11_layEdges 99 = .ok (.getfield 32, 3) := by decide +kernel
theorem dX11_layEdges_102 : decode cX11_layEdges 102 = .ok (.iconst 5, 1) := by decide +kernel
theorem dX11_layEdges_103 : decode cX11_layEdges 103 = .ok (.iload 6, 2) := by decide +kernel
theorem dX11_layEdges_105 : decode cX11_layEdges 105 = .ok (.iload_n 2, 1) := by decide +kernel
theorem dX11_layEdges_106 : decode cX11_layEdges 106 = .ok (.idiv, 1) := by decide +kernel
theorem dX11_layEdges_107 : decode cX11_layEdges 107 = .ok (.imul, 1) := by decide +kernel
theorem dX11_layEdges_108 : decode cX11_layEdges 108 = .ok (.iload 6, 2) := by decide +kernel
theorem dX11_layEdges_110 : decode cX11_layEdges 110 = .ok (.iload_n 2, 1) := by decide +kernel
theorem dX11_layEdges_111 : decode cX11_layEdges 111 = .ok (.irem, 1) := by decide +kernel
theorem dX11_layEdges_112 : decode cX11_layEdges 112 = .ok (.iadd, 1) := by decide +kernel
theorem dX11_layEdges_113 : decode cX11_layEdges 113 = .ok (.iaload, 1) := by decide +kernel
theorem dX11_layEdges_114 : decode cX11_layEdges 114 = .ok (.iload 5, 2) := by decide +kernel
theorem dX11_layEdges_116 : decode cX11_layEdges 116 = .ok (.invokevirtual 228, 3) := by decide +kernel
theorem dX11_layEdges_119 : decode cX11_layEdges 119 = .ok (.iinc 5 1, 3) := by decide +kernel
theorem dX11_layEdges_122 : decode cX11_layEdges 122 = .ok (.iinc 6 1, 3) := by decide +kernel
theorem dX11_layEdges_125 : decode cX11_layEdges 125 = .ok (.goto (-58), 3) := by decide +kernel
theorem dX11_layEdges_128 : decode cX11_layEdges 128 = .ok (.iconst 0, 1) := by decide +kernel
theorem dX11_layEdges_129 : decode cX11_layEdges 129 = .ok (.istore 6, 2) := by decide +kernel
theorem dX11_layEdges_131 : decode cX11_layEdges 131 = .ok (.iload 6, 2) := by decide +kernel
theorem dX11_layEdges_133 : decode cX11_layEdges 133 = .ok (.iload_n 2, 1) := by decide +kernel
theorem dX11_layEdges_134 : decode cX11_layEdges 134 = .ok (.if_icmp .ge 142, 3) := by decide +kernel
theorem dX11_layEdges_137 : decode cX11_layEdges 137 = .ok (.aload_n 0, 1) := by decide +kernel
theorem dX11_layEdges_138 : decode cX11_layEdges 138 = .ok (.iload 6, 2) := by decide +kernel
theorem dX11_layEdges_140 : decode cX11_layEdges 140 = .ok (.iload_n 1, 1) := by decide +kernel
theorem dX11_layEdges_141 : decode cX11_layEdges 141 = .ok (.invokevirtual 181, 3) := by decide +kernel
theorem dX11_layEdges_144 : decode cX11_layEdges 144 = .ok (.istore 7, 2) := by decide +kernel
theorem dX11_layEdges_146 : decode cX11_layEdges 146 = .ok (.aload_n 0, 1) := by decide +kernel
theorem dX11_layEdges_147 : decode cX11_layEdges 147 = .ok (.iload 6, 2) := by decide +kernel
theorem dX11_layEdges_149 : decode cX11_layEdges 149 = .ok (.iload_n 1, 1) := by decide +kernel
theorem dX11_layEdges_150 : decode cX11_layEdges 150 = .ok (.sipush 1000, 3) := by decide +kernel
theorem dX11_layEdges_153 : decode cX11_layEdges 153 = .ok (.invokevirtual 224, 3) := by decide +kernel
theorem dX11_layEdges_156 : decode cX11_layEdges 156 = .ok (.iload 4, 2) := by decide +kernel
theorem dX11_layEdges_158 : decode cX11_layEdges 158 = .ok (.ifCond .eq 18, 3) := by decide +kernel
theorem dX11_layEdges_161 : decode cX11_layEdges 161 = .ok (.aload_n 0, 1) := by decide +kernel
theorem dX11_layEdges_162 : decode cX11_layEdges 162 = .ok (.getfield 217, 3) := by decide +kernel
theorem dX11_layEdges_165 : decode cX11_layEdges 165 = .ok (.aload_n 0, 1) := by decide +kernel
theorem dX11_layEdges_166 : decode cX11_layEdges 166 = .ok (.getfield 220, 3) := by decide +kernel
theorem dX11_layEdges_169 : decode cX11_layEdges 169 = .ok (.if_icmp .gt 7, 3) := by decide +kernel
theorem dX11_layEdges_172 : decode cX11_layEdges 172 = .ok (.iconst 1, 1) := by decide +kernel
theorem dX11_layEdges_173 : decode cX11_layEdges 173 = .ok (.goto 4, 3) := by decide +kernel
theorem dX11_layEdges_176 : decode cX11_layEdges 176 = .ok (.iconst 0, 1) := by decide +kernel
theorem dX11_layEdges_177 : decode cX11_layEdges 177 = .ok (.istore 4, 2) := by decide +kernel
theorem dX11_layEdges_179 : decode cX11_layEdges 179 = .ok (.aload_n 0, 1) := by decide +kernel
theorem dX11_layEdges_180 : decode cX11_layEdges 180 = .ok (.bipush 6, 2) := by decide +kernel
theorem dX11_layEdges_182 : decode cX11_layEdges 182 = .ok (.iload 6, 2) := by decide +kernel
theorem dX11_layEdges_184 : decode cX11_layEdges 184 = .ok (.iload 7, 2) := by decide +kernel
theorem dX11_layEdges_186 : decode cX11_layEdges 186 = .ok (.iload 7, 2) := by decide +kernel
theorem dX11_layEdges_188 : decode cX11_layEdges 188 = .ok (.iconst 0, 1) := by decide +kernel
theorem dX11_layEdges_189 : decode cX11_layEdges 189 = .ok (.iconst (-1), 1) := by decide +kernel
theorem dX11_layEdges_190 : decode cX11_layEdges 190 = .ok (.invokevirtual 228, 3) := by decide +kernel
theorem dX11_layEdges_193 : decode cX11_layEdges 193 = .ok (.aload_n 0, 1) := by decide +kernel
theorem dX11_layEdges_194 : decode cX11_layEdges 194 = .ok (.bipush 6, 2) := by decide +kernel
theorem dX11_layEdges_196 : decode cX11_layEdges 196 = .ok (.iload 6, 2) := by decide +kernel
theorem dX11_layEdges_198 : decode cX11_layEdges 198 = .ok (.iconst 0, 1) := by decide +kernel
theorem dX11_layEdges_199 : decode cX11_layEdges 199 = .ok (.ldc 223, 2) := by decide +kernel
theorem dX11_layEdges_201 : decode cX11_layEdges 201 = .ok (.aload_n 0, 1) := by decide +kernel
theorem dX11_layEdges_202 : decode cX11_layEdges 202 = .ok (.getfield 93, 3) := by decide +kernel
theorem dX11_layEdges_205 : decode cX11_layEdges 205 = .ok (.iload 5, 2) := by decide +kernel
theorem dX11_layEdges_207 : decode cX11_layEdges 207 = .ok (.iload 6, 2) := by decide +kernel
theorem dX11_layEdges_209 : decode cX11_layEdges 209 = .ok (.iadd, 1) := by decide +kernel
theorem dX11_layEdges_210 : decode cX11_layEdges 210 = .ok (.invokevirtual 228, 3) := by decide +kernel
theorem dX11_layEdges_213 : decode cX11_layEdges 213 = .ok (.aload_n 0, 1) := by decide +kernel
theorem dX11_layEdges_214 : decode cX11_layEdges 214 = .ok (.iload 6, 2) := by decide +kernel
theorem dX11_layEdges_216 : decode cX11_layEdges 216 = .ok (.bipush 6, 2) := by decide +kernel
theorem dX11_layEdges_218 : decode cX11_layEdges 218 = .ok (.iconst 0, 1) := by decide +kernel
theorem dX11_layEdges_219 : decode cX11_layEdges 219 = .ok (.ldc 223, 2) := by decide +kernel
theorem dX11_layEdges_221 : decode cX11_layEdges 221 = .ok (.aload_n 0, 1) := by decide +kernel
theorem dX11_layEdges_222 : decode cX11_layEdges 222 = .ok (.getfield 96, 3) := by decide +kernel
theorem dX11_layEdges_225 : decode cX11_layEdges 225 = .ok (.iload 5, 2) := by decide +kernel
theorem dX11_layEdges_227 : decode cX11_layEdges 227 = .ok (.iload_n 2, 1) := by decide +kernel
theorem dX11_layEdges_228 : decode cX11_layEdges 228 = .ok (.iadd, 1) := by decide +kernel
theorem dX11_layEdges_229 : decode cX11_layEdges 229 = .ok (.iload 6, 2) := by decide +kernel
theorem dX11_layEdges_231 : decode cX11_layEdges 231 = .ok (.iadd, 1) := by decide +kernel
theorem dX11_layEdges_232 : decode cX11_layEdges 232 = .ok (.invokevirtual 228, 3) := by decide +kernel
theorem dX11_layEdges_235 : decode cX11_layEdges 235 = .ok (.aload_n 0, 1) := by decide +kernel
theorem dX11_layEdges_236 : decode cX11_layEdges 236 = .ok (.iload 6, 2) := by decide +kernel
theorem dX11_layEdges_238 : decode cX11_layEdges 238 = .ok (.iconst 5, 1) := by decide +kernel
theorem dX11_layEdges_239 : decode cX11_layEdges 239 = .ok (.aload_n 0, 1) := by decide +kernel
theorem dX11_layEdges_240 : decode cX11_layEdges 240 = .ok (.getfield 217, 3) := by decide +kernel
theorem dX11_layEdges_243 : decode cX11_layEdges 243 = .ok (.aload_n 0, 1) := by decide +kernel
theorem dX11_layEdges_244 : decode cX11_layEdges 244 = .ok (.getfield 217, 3) := by decide +kernel
theorem dX11_layEdges_247 : decode cX11_layEdges 247 = .ok (.aload_n 0, 1) := by decide +kernel
theorem dX11_layEdges_248 : decode cX11_layEdges 248 = .ok (.getfield 220, 3) := by decide +kernel
theorem dX11_layEdges_251 : decode cX11_layEdges 251 = .ok (.if_icmp .gt 10, 3) := by decide +kernel
theorem dX11_layEdges_254 : decode cX11_layEdges 254 = .ok (.aload_n 0, 1) := by decide +kernel
theorem dX11_layEdges_255 : decode cX11_layEdges 255 = .ok (.getfield 220, 3) := by decide +kernel
theorem dX11_layEdges_258 : decode cX11_layEdges 258 = .ok (.goto 7, 3) := by decide +kernel
theorem dX11_layEdges_261 : decode cX11_layEdges 261 = .ok (.aload_n 0, 1) := by decide +kernel
theorem dX11_layEdges_262 : decode cX11_layEdges 262 = .ok (.getfield 217, 3) := by decide +kernel
theorem dX11_layEdges_265 : decode cX11_layEdges 265 = .ok (.iconst 0, 1) := by decide +kernel
theorem dX11_layEdges_266 : decode cX11_layEdges 266 = .ok (.iconst (-1), 1) := by decide +kernel
theorem dX11_layEdges_267 : decode cX11_layEdges 267 = .ok (.invokevirtual 228, 3) := by decide +kernel
theorem dX11_layEdges_270 : decode cX11_layEdges 270 = .ok (.iinc 6 1, 3) := by decide +kernel
theorem dX11_layEdges_273 : decode cX11_layEdges 273 = .ok (.goto (-142), 3) := by decide +kernel
theorem dX11_layEdges_276 : decode cX11_layEdges 276 = .ok (.aload_n 0, 1) := by decide +kernel
theorem dX11_layEdges_277 : decode cX11_layEdges 277 = .ok (.bipush 8, 2) := by decide +kernel
theorem dX11_layEdges_279 : decode cX11_layEdges 279 = .ok (.iload_n 1, 1) := by decide +kernel
theorem dX11_layEdges_280 : decode cX11_layEdges 280 = .ok (.ldc 223, 2) := by decide +kernel
theorem dX11_layEdges_282 : decode cX11_layEdges 282 = .ok (.invokevirtual 224, 3) := by decide +kernel
theorem dX11_layEdges_285 : decode cX11_layEdges 285 = .ok (.aload_n 0, 1) := by decide +kernel
theorem dX11_layEdges_286 : decode cX11_layEdges 286 = .ok (.aload_n 0, 1) := by decide +kernel
theorem dX11_layEdges_287 : decode cX11_layEdges 287 = .ok (.getfield 217, 3) := by decide +kernel
theorem dX11_layEdges_290 : decode cX11_layEdges 290 = .ok (.iload_n 3, 1) := by decide +kernel
theorem dX11_layEdges_291 : decode cX11_layEdges 291 = .ok (.if_icmp .le 12, 3) := by decide +kernel
theorem dX11_layEdges_294 : decode cX11_layEdges 294 = .ok (.aload_n 0, 1) := by decide +kernel
theorem dX11_layEdges_295 : decode cX11_layEdges 295 = .ok (.getfield 217, 3) := by decide +kernel
theorem dX11_layEdges_298 : decode cX11_layEdges 298 = .ok (.iload_n 3, 1) := by decide +kernel
theorem dX11_layEdges_299 : decode cX11_layEdges 299 = .ok (.isub, 1) := by decide +kernel
theorem dX11_layEdges_300 : decode cX11_layEdges 300 = .ok (.goto 4, 3) := by decide +kernel
theorem dX11_layEdges_303 : decode cX11_layEdges 303 = .ok (.iconst 0, 1) := by decide +kernel
theorem dX11_layEdges_304 : decode cX11_layEdges 304 = .ok (.putfield 217, 3) := by decide +kernel
theorem dX11_layEdges_307 : decode cX11_layEdges 307 = .ok (.aload_n 0, 1) := by decide +kernel
theorem dX11_layEdges_308 : decode cX11_layEdges 308 = .ok (.dup, 1) := by decide +kernel
theorem dX11_layEdges_309 : decode cX11_layEdges 309 = .ok (.getfield 220, 3) := by decide +kernel
theorem dX11_layEdges_312 : decode cX11_layEdges 312 = .ok (.iload_n 3, 1) := by decide +kernel
theorem dX11_layEdges_313 : decode cX11_layEdges 313 = .ok (.isub, 1) := by decide +kernel
theorem dX11_layEdges_314 : decode cX11_layEdges 314 = .ok (.putfield 220, 3) := by decide +kernel
theorem dX11_layEdges_317 : decode cX11_layEdges 317 = .ok (.aload_n 0, 1) := by decide +kernel
theorem dX11_layEdges_318 : decode cX11_layEdges 318 = .ok (.iconst 5, 1) := by decide +kernel
theorem dX11_layEdges_319 : decode cX11_layEdges 319 = .ok (.bipush 6, 2) := by decide +kernel
theorem dX11_layEdges_321 : decode cX11_layEdges 321 = .ok (.aload_n 0, 1) := by decide +kernel
theorem dX11_layEdges_322 : decode cX11_layEdges 322 = .ok (.getfield 217, 3) := by decide +kernel
theorem dX11_layEdges_325 : decode cX11_layEdges 325 = .ok (.aload_n 0, 1) := by decide +kernel
theorem dX11_layEdges_326 : decode cX11_layEdges 326 = .ok (.getfield 217, 3) := by decide +kernel
theorem dX11_layEdges_329 : decode cX11_layEdges 329 = .ok (.aload_n 0, 1) := by decide +kernel
theorem dX11_layEdges_330 : decode cX11_layEdges 330 = .ok (.getfield 220, 3) := by decide +kernel
theorem dX11_layEdges_333 : decode cX11_layEdges 333 = .ok (.if_icmp .gt 10, 3) := by decide +kernel
theorem dX11_layEdges_336 : decode cX11_layEdges 336 = .ok (.aload_n 0, 1) := by decide +kernel
theorem dX11_layEdges_337 : decode cX11_layEdges 337 = .ok (.getfield 220, 3) := by decide +kernel
theorem dX11_layEdges_340 : decode cX11_layEdges 340 = .ok (.goto 7, 3) := by decide +kernel
theorem dX11_layEdges_343 : decode cX11_layEdges 343 = .ok (.aload_n 0, 1) := by decide +kernel
theorem dX11_layEdges_344 : decode cX11_layEdges 344 = .ok (.getfield 217, 3) := by decide +kernel
theorem dX11_layEdges_347 : decode cX11_layEdges 347 = .ok (.iconst 0, 1) := by decide +kernel
theorem dX11_layEdges_348 : decode cX11_layEdges 348 = .ok (.iconst (-1), 1) := by decide +kernel
theorem dX11_layEdges_349 : decode cX11_layEdges 349 = .ok (.invokevirtual 228, 3) := by decide +kernel
theorem dX11_layEdges_352 : decode cX11_layEdges 352 = .ok (.iload 4, 2) := by decide +kernel
theorem dX11_layEdges_354 : decode cX11_layEdges 354 = .ok (.ifCond .eq 18, 3) := by decide +kernel
theorem dX11_layEdges_357 : decode cX11_layEdges 357 = .ok (.aload_n 0, 1) := by decide +kernel
theorem dX11_layEdges_358 : decode cX11_layEdges 358 = .ok (.getfield 217, 3) := by decide +kernel
theorem dX11_layEdges_361 : decode cX11_layEdges 361 = .ok (.aload_n 0, 1) := by decide +kernel
theorem dX11_layEdges_362 : decode cX11_layEdges 362 = .ok (.getfield 220, 3) := by decide +kernel
theorem dX11_layEdges_365 : decode cX11_layEdges 365 = .ok (.if_icmp .gt 7, 3) := by decide +kernel
theorem dX11_layEdges_368 : decode cX11_layEdges 368 = .ok (.iconst 1, 1) := by decide +kernel
theorem dX11_layEdges_369 : decode cX11_layEdges 369 = .ok (.goto 4, 3) := by decide +kernel
theorem dX11_layEdges_372 : decode cX11_layEdges 372 = .ok (.iconst 0, 1) := by decide +kernel
theorem dX11_layEdges_373 : decode cX11_layEdges 373 = .ok (.ireturn, 1) := by decide +kernel
theorem dX11_room_0 : decode cX11_room 0 = .ok (.iload_n 1, 1) := by decide +kernel
theorem dX11_room_1 : decode cX11_room 1 = .ok (.bipush 100, 2) := by decide +kernel
theorem dX11_room_3 : decode cX11_room 3 = .ok (.irem, 1) := by decide +kernel
theorem dX11_room_4 : decode cX11_room 4 = .ok (.istore_n 2, 1) := by decide +kernel
theorem dX11_room_5 : decode cX11_room 5 = .ok (.iload_n 1, 1) := by decide +kernel
theorem dX11_room_6 : decode cX11_room 6 = .ok (.bipush 100, 2) := by decide +kernel
theorem dX11_room_8 : decode cX11_room 8 = .ok (.if_icmp .ge 19, 3) := by decide +kernel
theorem dX11_room_11 : decode cX11_room 11 = .ok (.aload_n 0, 1) := by decide +kernel
theorem dX11_room_12 : decode cX11_room 12 = .ok (.getfield 41, 3) := by decide +kernel
theorem dX11_room_15 : decode cX11_room 15 = .ok (.iload_n 2, 1) := by decide +kernel
theorem dX11_room_16 : decode cX11_room 16 = .ok (.iaload, 1) := by decide +kernel
theorem dX11_room_17 : decode cX11_room 17 = .ok (.aload_n 0, 1) := by decide +kernel
theorem dX11_room_18 : decode cX11_room 18 = .ok (.getfield 53, 3) := by decide +kernel
theorem dX11_room_21 : decode cX11_room 21 = .ok (.iload_n 2, 1) := by decide +kernel
theorem dX11_room_22 : decode cX11_room 22 = .ok (.iaload, 1) := by decide +kernel
theorem dX11_room_23 : decode cX11_room 23 = .ok (.isub, 1) := by decide +kernel
theorem dX11_room_24 : decode cX11_room 24 = .ok (.goto 16, 3) := by decide +kernel
theorem dX11_room_27 : decode cX11_room 27 = .ok (.aload_n 0, 1) := by decide +kernel
theorem dX11_room_28 : decode cX11_room 28 = .ok (.getfield 53, 3) := by decide +kernel
theorem dX11_room_31 : decode cX11_room 31 = .ok (.iload_n 2, 1) := by decide +kernel
theorem dX11_room_32 : decode cX11_room 32 = .ok (.iaload, 1) := by decide +kernel
theorem dX11_room_33 : decode cX11_room 33 = .ok (.aload_n 0, 1) := by decide +kernel
theorem dX11_room_34 : decode cX11_room 34 = .ok (.getfield 44, 3) := by decide +kernel
theorem dX11_room_37 : decode cX11_room 37 = .ok (.iload_n 2, 1) := by decide +kernel
theorem dX11_room_38 : decode cX11_room 38 = .ok (.iaload, 1) := by decide +kernel
theorem dX11_room_39 : decode cX11_room 39 = .ok (.isub, 1) := by decide +kernel
theorem dX11_room_40 : decode cX11_room 40 = .ok (.ireturn, 1) := by decide +kernel
theorem dX11_relaxes_0 : decode cX11_relaxes 0 = .ok (.iload_n 3, 1) := by decide +kernel
theorem dX11_relaxes_1 : decode cX11_relaxes 1 = .ok (.bipush 100, 2) := by decide +kernel
theorem dX11_relaxes_3 : decode cX11_relaxes 3 = .ok (.irem, 1) := by decide +kernel
theorem dX11_relaxes_4 : decode cX11_relaxes 4 = .ok (.istore 4, 2) := by decide +kernel
theorem dX11_relaxes_6 : decode cX11_relaxes 6 = .ok (.iload_n 3, 1) := by decide +kernel
theorem dX11_relaxes_7 : decode cX11_relaxes 7 = .ok (.bipush 100, 2) := by decide +kernel
theorem dX11_relaxes_9 : decode cX11_relaxes 9 = .ok (.if_icmp .ge 7, 3) := by decide +kernel
theorem dX11_relaxes_12 : decode cX11_relaxes 12 = .ok (.iconst 1, 1) := by decide +kernel
theorem dX11_relaxes_13 : decode cX11_relaxes 13 = .ok (.goto 4, 3) := by decide +kernel
theorem dX11_relaxes_16 : decode cX11_relaxes 16 = .ok (.iconst (-1), 1) := by decide +kernel
theorem dX11_relaxes_17 : decode cX11_relaxes 17 = .ok (.istore 5, 2) := by decide +kernel
theorem dX11_relaxes_19 : decode cX11_relaxes 19 = .ok (.aload_n 0, 1) := by decide +kernel
theorem dX11_relaxes_20 : decode cX11_relaxes 20 = .ok (.getfield 59, 3) := by decide +kernel
theorem dX11_relaxes_23 : decode cX11_relaxes 23 = .ok (.iload_n 2, 1) := by decide +kernel
theorem dX11_relaxes_24 : decode cX11_relaxes 24 = .ok (.baload, 1) := by decide +kernel
theorem dX11_relaxes_25 : decode cX11_relaxes 25 = .ok (.ifCond .ne 7, 3) := by decide +kernel
theorem dX11_relaxes_28 : decode cX11_relaxes 28 = .ok (.iconst 1, 1) := by decide +kernel
theorem dX11_relaxes_29 : decode cX11_relaxes 29 = .ok (.goto 4, 3) := by decide +kernel
theorem dX11_relaxes_32 : decode cX11_relaxes 32 = .ok (.iconst 0, 1) := by decide +kernel
theorem dX11_relaxes_33 : decode cX11_relaxes 33 = .ok (.istore 6, 2) := by decide +kernel
theorem dX11_relaxes_35 : decode cX11_relaxes 35 = .ok (.iload 6, 2) := by decide +kernel
theorem dX11_relaxes_37 : decode cX11_relaxes 37 = .ok (.istore 7, 2) := by decide +kernel
theorem dX11_relaxes_39 : decode cX11_relaxes 39 = .ok (.iconst 0, 1) := by decide +kernel
theorem dX11_relaxes_40 : decode cX11_relaxes 40 = .ok (.istore 8, 2) := by decide +kernel
theorem dX11_relaxes_42 : decode cX11_relaxes 42 = .ok (.iload 8, 2) := by decide +kernel
theorem dX11_relaxes_44 : decode cX11_relaxes 44 = .ok (.bipush 31, 2) := by decide +kernel
theorem dX11_relaxes_46 : decode cX11_relaxes 46 = .ok (.if_icmp .ge 115, 3) := by decide +kernel
theorem dX11_relaxes_49 : decode cX11_relaxes 49 = .ok (.iload 7, 2) := by decide +kernel
theorem dX11_relaxes_51 : decode cX11_relaxes 51 = .ok (.ifCond .ne 110, 3) := by decide +kernel
theorem dX11_relaxes_54 : decode cX11_relaxes 54 = .ok (.aload_n 0, 1) := by decide +kernel
theorem dX11_relaxes_55 : decode cX11_relaxes 55 = .ok (.getfield 63, 3) := by decide +kernel
theorem dX11_relaxes_58 : decode cX11_relaxes 58 = .ok (.bipush 31, 2) := by decide +kernel
theorem dX11_relaxes_60 : decode cX11_relaxes 60 = .ok (.iload_n 1, 1) := by decide +kernel
theorem dX11_relaxes_61 : decode cX11_relaxes 61 = .ok (.imul, 1) := by decide +kernel
theorem dX11_relaxes_62 : decode cX11_relaxes 62 = .ok (.iload 8, 2) := by decide +kernel
theorem dX11_relaxes_64 : decode cX11_relaxes 64 = .ok (.iadd, 1) := by decide +kernel
theorem dX11_relaxes_65 : decode cX11_relaxes 65 = .ok (.iaload, 1) := by decide +kernel
theorem dX11_relaxes_66 : decode cX11_relaxes 66 = .ok (.iload 8, 2) := by decide +kernel
theorem dX11_relaxes_68 : decode cX11_relaxes 68 = .ok (.ifCond .ne 16, 3) := by decide +kernel
theorem dX11_relaxes_71 : decode cX11_relaxes 71 = .ok (.iload 5, 2) := by decide +kernel
theorem dX11_relaxes_73 : decode cX11_relaxes 73 = .ok (.aload_n 0, 1) := by decide +kernel
theorem dX11_relaxes_74 : decode cX11_relaxes 74 = .ok (.getfield 47, 3) := by decide +kernel
theorem dX11_relaxes_77 : decode cX11_relaxes 77 = .ok (.iload 4, 2) := by decide +kernel
theorem dX11_relaxes_79 : decode cX11_relaxes 79 = .ok (.iaload, 1) := by decide +kernel
theorem dX11_relaxes_80 : decode cX11_relaxes 80 = .ok (.imul, 1) := by decide +kernel
theorem dX11_relaxes_81 : decode cX11_relaxes 81 = .ok (.goto 23, 3) := by decide +kernel
theorem dX11_relaxes_84 : decode cX11_relaxes 84 = .ok (.iload 8, 2) := by decide +kernel
theorem dX11_relaxes_86 : decode cX11_relaxes 86 = .ok (.iconst 1, 1) := by decide +kernel
theorem dX11_relaxes_87 : decode cX11_relaxes 87 = .ok (.isub, 1) := by decide +kernel
theorem dX11_relaxes_88 : decode cX11_relaxes 88 = .ok (.aload_n 0, 1) := by decide +kernel
theorem dX11_relaxes_89 : decode cX11_relaxes 89 = .ok (.getfield 50, 3) := by decide +kernel
theorem dX11_relaxes_92 : decode cX11_relaxes 92 = .ok (.iload 4, 2) := by decide +kernel
theorem dX11_relaxes_94 : decode cX11_relaxes 94 = .ok (.iaload, 1) := by decide +kernel
theorem dX11_relaxes_95 : decode cX11_relaxes 95 = .ok (.if_icmp .ne 8, 3) := by decide +kernel
theorem dX11_relaxes_98 : decode cX11_relaxes 98 = .ok (.iload 5, 2) := by decide +kernel
theorem dX11_relaxes_100 : decode cX11_relaxes 100 = .ok (.goto 4, 3) := by decide +kernel
theorem dX11_relaxes_103 : decode cX11_relaxes 103 = .ok (.iconst 0, 1) := by decide +kernel
theorem dX11_relaxes_104 : decode cX11_relaxes 104 = .ok (.iadd, 1) := by decide +kernel
theorem dX11_relaxes_105 : decode cX11_relaxes 105 = .ok (.istore 9, 2) := by decide +kernel
theorem dX11_relaxes_107 : decode cX11_relaxes 107 = .ok (.iload 9, 2) := by decide +kernel
theorem dX11_relaxes_109 : decode cX11_relaxes 109 = .ok (.aload_n 0, 1) := by decide +kernel
theorem dX11_relaxes_110 : decode cX11_relaxes 110 = .ok (.getfield 63, 3) := by decide +kernel
theorem dX11_relaxes_113 : decode cX11_relaxes 113 = .ok (.bipush 31, 2) := by decide +kernel
theorem dX11_relaxes_115 : decode cX11_relaxes 115 = .ok (.iload_n 2, 1) := by decide +kernel
theorem dX11_relaxes_116 : decode cX11_relaxes 116 = .ok (.imul, 1) := by decide +kernel
theorem dX11_relaxes_117 : decode cX11_relaxes 117 = .ok (.iload 8, 2) := by decide +kernel
theorem dX11_relaxes_119 : decode cX11_relaxes 119 = .ok (.iadd, 1) := by decide +kernel
theorem dX11_relaxes_120 : decode cX11_relaxes 120 = .ok (.iaload, 1) := by decide +kernel
theorem dX11_relaxes_121 : decode cX11_relaxes 121 = .ok (.if_icmp .eq 7, 3) := by decide +kernel
theorem dX11_relaxes_124 : decode cX11_relaxes 124 = .ok (.iconst 1, 1) := by decide +kernel
theorem dX11_relaxes_125 : decode cX11_relaxes 125 = .ok (.goto 4, 3) := by decide +kernel
theorem dX11_relaxes_128 : decode cX11_relaxes 128 = .ok (.iconst 0, 1) := by decide +kernel
theorem dX11_relaxes_129 : decode cX11_relaxes 129 = .ok (.istore 7, 2) := by decide +kernel
theorem dX11_relaxes_131 : decode cX11_relaxes 131 = .ok (.iload 9, 2) := by decide +kernel
theorem dX11_relaxes_133 : decode cX11_relaxes 133 = .ok (.aload_n 0, 1) := by decide +kernel
theorem dX11_relaxes_134 : decode cX11_relaxes 134 = .ok (.getfield 63, 3) := by decide +kernel
theorem dX11_relaxes_137 : decode cX11_relaxes 137 = .ok (.bipush 31, 2) := by decide +kernel
theorem dX11_relaxes_139 : decode cX11_relaxes 139 = .ok (.iload_n 2, 1) := by decide +kernel
theorem dX11_relaxes_140 : decode cX11_relaxes 140 = .ok (.imul, 1) := by decide +kernel
theorem dX11_relaxes_141 : decode cX11_relaxes 141 = .ok (.iload 8, 2) := by decide +kernel
theorem dX11_relaxes_143 : decode cX11_relaxes 143 = .ok (.iadd, 1) := by decide +kernel
theorem dX11_relaxes_144 : decode cX11_relaxes 144 = .ok (.iaload, 1) := by decide +kernel
theorem dX11_relaxes_145 : decode cX11_relaxes 145 = .ok (.if_icmp .ge 7, 3) := by decide +kernel
theorem dX11_relaxes_148 : decode cX11_relaxes 148 = .ok (.iconst 1, 1) := by decide +kernel
theorem dX11_relaxes_149 : decode cX11_relaxes 149 = .ok (.goto 4, 3) := by decide +kernel
theorem dX11_relaxes_152 : decode cX11_relaxes 152 = .ok (.iconst 0, 1) := by decide +kernel
theorem dX11_relaxes_153 : decode cX11_relaxes 153 = .ok (.istore 6, 2) := by decide +kernel
theorem dX11_relaxes_155 : decode cX11_relaxes 155 = .ok (.iinc 8 1, 3) := by decide +kernel
theorem dX11_relaxes_158 : decode cX11_relaxes 158 = .ok (.goto (-116), 3) := by decide +kernel
theorem dX11_relaxes_161 : decode cX11_relaxes 161 = .ok (.iload 6, 2) := by decide +kernel
theorem dX11_relaxes_163 : decode cX11_relaxes 163 = .ok (.ifCond .ne 5, 3) := by decide +kernel
theorem dX11_relaxes_166 : decode cX11_relaxes 166 = .ok (.iconst 0, 1) := by decide +kernel
theorem dX11_relaxes_167 : decode cX11_relaxes 167 = .ok (.ireturn, 1) := by decide +kernel
theorem dX11_relaxes_168 : decode cX11_relaxes 168 = .ok (.iconst 0, 1) := by decide +kernel
theorem dX11_relaxes_169 : decode cX11_relaxes 169 = .ok (.istore 8, 2) := by decide +kernel
theorem dX11_relaxes_171 : decode cX11_relaxes 171 = .ok (.iload 8, 2) := by decide +kernel
theorem dX11_relaxes_173 : decode cX11_relaxes 173 = .ok (.bipush 31, 2) := by decide +kernel
theorem dX11_relaxes_175 : decode cX11_relaxes 175 = .ok (.if_icmp .ge 72, 3) := by decide +kernel
theorem dX11_relaxes_178 : decode cX11_relaxes 178 = .ok (.aload_n 0, 1) := by decide +kernel
theorem dX11_relaxes_179 : decode cX11_relaxes 179 = .ok (.getfield 63, 3) := by decide +kernel
theorem dX11_relaxes_182 : decode cX11_relaxes 182 = .ok (.bipush 31, 2) := by decide +kernel
theorem dX11_relaxes_184 : decode cX11_relaxes 184 = .ok (.iload_n 2, 1) := by decide +kernel
theorem dX11_relaxes_185 : decode cX11_relaxes 185 = .ok (.imul, 1) := by decide +kernel
theorem dX11_relaxes_186 : decode cX11_relaxes 186 = .ok (.iload 8, 2) := by decide +kernel
theorem dX11_relaxes_188 : decode cX11_relaxes 188 = .ok (.iadd, 1) := by decide +kernel
theorem dX11_relaxes_189 : decode cX11_relaxes 189 = .ok (.aload_n 0, 1) := by decide +kernel
theorem dX11_relaxes_190 : decode cX11_relaxes 190 = .ok (.getfield 63, 3) := by decide +kernel
theorem dX11_relaxes_193 : decode cX11_relaxes 193 = .ok (.bipush 31, 2) := by decide +kernel
theorem dX11_relaxes_195 : decode cX11_relaxes 195 = .ok (.iload_n 1, 1) := by decide +kernel
theorem dX11_relaxes_196 : decode cX11_relaxes 196 = .ok (.imul, 1) := by decide +kernel
theorem dX11_relaxes_197 : decode cX11_relaxes 197 = .ok (.iload 8, 2) := by decide +kernel
theorem dX11_relaxes_199 : decode cX11_relaxes 199 = .ok (.iadd, 1) := by decide +kernel
theorem dX11_relaxes_200 : decode cX11_relaxes 200 = .ok (.iaload, 1) := by decide +kernel
theorem dX11_relaxes_201 : decode cX11_relaxes 201 = .ok (.iload 8, 2) := by decide +kernel
theorem dX11_relaxes_203 : decode cX11_relaxes 203 = .ok (.ifCond .ne 16, 3) := by decide +kernel
theorem dX11_relaxes_206 : decode cX11_relaxes 206 = .ok (.iload 5, 2) := by decide +kernel
theorem dX11_relaxes_208 : decode cX11_relaxes 208 = .ok (.aload_n 0, 1) := by decide +kernel
theorem dX11_relaxes_209 : decode cX11_relaxes 209 = .ok (.getfield 47, 3) := by decide +kernel
theorem dX11_relaxes_212 : decode cX11_relaxes 212 = .ok (.iload 4, 2) := by decide +kernel
theorem dX11_relaxes_214 : decode cX11_relaxes 214 = .ok (.iaload, 1) := by decide +kernel
theorem dX11_relaxes_215 : decode cX11_relaxes 215 = .ok (.imul, 1) := by decide +kernel
theorem dX11_relaxes_216 : decode cX11_relaxes 216 = .ok (.goto 23, 3) := by decide +kernel
theorem dX11_relaxes_219 : decode cX11_relaxes 219 = .ok (.iload 8, 2) := by decide +kernel
theorem dX11_relaxes_221 : decode cX11_relaxes 221 = .ok (.iconst 1, 1) := by decide +kernel
theorem dX11_relaxes_222 : decode cX11_relaxes 222 = .ok (.isub, 1) := by decide +kernel
theorem dX11_relaxes_223 : decode cX11_relaxes 223 = .ok (.aload_n 0, 1) := by decide +kernel
theorem dX11_relaxes_224 : decode cX11_relaxes 224 = .ok (.getfield 50, 3) := by decide +kernel
theorem dX11_relaxes_227 : decode cX11_relaxes 227 = .ok (.iload 4, 2) := by decide +kernel
theorem dX11_relaxes_229 : decode cX11_relaxes 229 = .ok (.iaload, 1) := by decide +kernel
theorem dX11_relaxes_230 : decode cX11_relaxes 230 = .ok (.if_icmp .ne 8, 3) := by decide +kernel
theorem dX11_relaxes_233 : decode cX11_relaxes 233 = .ok (.iload 5, 2) := by decide +kernel
theorem dX11_relaxes_235 : decode cX11_relaxes 235 = .ok (.goto 4, 3) := by decide +kernel
theorem dX11_relaxes_238 : decode cX11_relaxes 238 = .ok (.iconst 0, 1) := by decide +kernel
theorem dX11_relaxes_239 : decode cX11_relaxes 239 = .ok (.iadd, 1) := by decide +kernel
theorem dX11_relaxes_240 : decode cX11_relaxes 240 = .ok (.iastore, 1) := by decide +kernel
theorem dX11_relaxes_241 : decode cX11_relaxes 241 = .ok (.iinc 8 1, 3) := by decide +kernel
theorem dX11_relaxes_244 : decode cX11_relaxes 244 = .ok (.goto (-73), 3) := by decide +kernel
theorem dX11_relaxes_247 : decode cX11_relaxes 247 = .ok (.aload_n 0, 1) := by decide +kernel
theorem dX11_relaxes_248 : decode cX11_relaxes 248 = .ok (.getfield 59, 3) := by decide +kernel
theorem dX11_relaxes_251 : decode cX11_relaxes 251 = .ok (.iload_n 2, 1) := by decide +kernel
theorem dX11_relaxes_252 : decode cX11_relaxes 252 = .ok (.iconst 1, 1) := by decide +kernel
theorem dX11_relaxes_253 : decode cX11_relaxes 253 = .ok (.bastore, 1) := by decide +kernel
theorem dX11_relaxes_254 : decode cX11_relaxes 254 = .ok (.aload_n 0, 1) := by decide +kernel
theorem dX11_relaxes_255 : decode cX11_relaxes 255 = .ok (.getfield 66, 3) := by decide +kernel
theorem dX11_relaxes_258 : decode cX11_relaxes 258 = .ok (.iload_n 2, 1) := by decide +kernel
theorem dX11_relaxes_259 : decode cX11_relaxes 259 = .ok (.iload_n 3, 1) := by decide +kernel
theorem dX11_relaxes_260 : decode cX11_relaxes 260 = .ok (.iastore, 1) := by decide +kernel
theorem dX11_relaxes_261 : decode cX11_relaxes 261 = .ok (.iconst 1, 1) := by decide +kernel
theorem dX11_relaxes_262 : decode cX11_relaxes 262 = .ok (.ireturn, 1) := by decide +kernel
theorem dX11_findWays_0 : decode cX11_findWays 0 = .ok (.iconst 0, 1) := by decide +kernel
theorem dX11_findWays_1 : decode cX11_findWays 1 = .ok (.istore_n 1, 1) := by decide +kernel
theorem dX11_findWays_2 : decode cX11_findWays 2 = .ok (.iload_n 1, 1) := by decide +kernel
theorem dX11_findWays_3 : decode cX11_findWays 3 = .ok (.bipush 7, 2) := by decide +kernel
theorem dX11_findWays_5 : decode cX11_findWays 5 = .ok (.if_icmp .ge 36, 3) := by decide +kernel
theorem dX11_findWays_8 : decode cX11_findWays 8 = .ok (.aload_n 0, 1) := by decide +kernel
theorem dX11_findWays_9 : decode cX11_findWays 9 = .ok (.getfield 59, 3) := by decide +kernel
theorem dX11_findWays_12 : decode cX11_findWays 12 = .ok (.iload_n 1, 1) := by decide +kernel
theorem dX11_findWays_13 : decode cX11_findWays 13 = .ok (.aload_n 0, 1) := by decide +kernel
theorem dX11_findWays_14 : decode cX11_findWays 14 = .ok (.getfield 56, 3) := by decide +kernel
theorem dX11_findWays_17 : decode cX11_findWays 17 = .ok (.iload_n 1, 1) := by decide +kernel
theorem dX11_findWays_18 : decode cX11_findWays 18 = .ok (.iaload, 1) := by decide +kernel
theorem dX11_findWays_19 : decode cX11_findWays 19 = .ok (.ifCond .le 7, 3) := by decide +kernel
theorem dX11_findWays_22 : decode cX11_findWays 22 = .ok (.iconst 1, 1) := by decide +kernel
theorem dX11_findWays_23 : decode cX11_findWays 23 = .ok (.goto 4, 3) := by decide +kernel
theorem dX11_findWays_26 : decode cX11_findWays 26 = .ok (.iconst 0, 1) := by decide +kernel
theorem dX11_findWays_27 : decode cX11_findWays 27 = .ok (.bastore, 1) := by decide +kernel
theorem dX11_findWays_28 : decode cX11_findWays 28 = .ok (.aload_n 0, 1) := by decide +kernel
theorem dX11_findWays_29 : decode cX11_findWays 29 = .ok (.getfield 66, 3) := by decide +kernel
theorem dX11_findWays_32 : decode cX11_findWays 32 = .ok (.iload_n 1, 1) := by decide +kernel
theorem dX11_findWays_33 : decode cX11_findWays 33 = .ok (.iconst (-1), 1) := by decide +kernel
theorem dX11_findWays_34 : decode cX11_findWays 34 = .ok (.iastore, 1) := by decide +kernel
theorem dX11_findWays_35 : decode cX11_findWays 35 = .ok (.iinc 1 1, 3) := by decide +kernel
theorem dX11_findWays_38 : decode cX11_findWays 38 = .ok (.goto (-36), 3) := by decide +kernel
theorem dX11_findWays_41 : decode cX11_findWays 41 = .ok (.iconst 0, 1) := by decide +kernel
theorem dX11_findWays_42 : decode cX11_findWays 42 = .ok (.istore_n 1, 1) := by decide +kernel
theorem dX11_findWays_43 : decode cX11_findWays 43 = .ok (.iload_n 1, 1) := by decide +kernel
theorem dX11_findWays_44 : decode cX11_findWays 44 = .ok (.sipush 217, 3) := by decide +kernel
theorem dX11_findWays_47 : decode cX11_findWays 47 = .ok (.if_icmp .ge 16, 3) := by decide +kernel
theorem dX11_findWays_50 : decode cX11_findWays 50 = .ok (.aload_n 0, 1) := by decide +kernel
theorem dX11_findWays_51 : decode cX11_findWays 51 = .ok (.getfield 63, 3) := by decide +kernel
theorem dX11_findWays_54 : decode cX11_findWays 54 = .ok (.iload_n 1, 1) := by decide +kernel
theorem dX11_findWays_55 : decode cX11_findWays 55 = .ok (.iconst 0, 1) := by decide +kernel
theorem dX11_findWays_56 : decode cX11_findWays 56 = .ok (.iastore, 1) := by decide +kernel
theorem dX11_findWays_57 : decode cX11_findWays 57 = .ok (.iinc 1 1, 3) := by decide +kernel
theorem dX11_findWays_60 : decode cX11_findWays 60 = .ok (.goto (-17), 3) := by decide +kernel
theorem dX11_findWays_63 : decode cX11_findWays 63 = .ok (.iconst 1, 1) := by decide +kernel
theorem dX11_findWays_64 : decode cX11_findWays 64 = .ok (.istore_n 1, 1) := by decide +kernel
theorem dX11_findWays_65 : decode cX11_findWays 65 = .ok (.iload_n 1, 1) := by decide +kernel
theorem dX11_findWays_66 : decode cX11_findWays 66 = .ok (.ifCond .eq 134, 3) := by decide +kernel
theorem dX11_findWays_69 : decode cX11_findWays 69 = .ok (.iconst 0, 1) := by decide +kernel
theorem dX11_findWays_70 : decode cX11_findWays 70 = .ok (.istore_n 1, 1) := by decide +kernel
theorem dX11_findWays_71 : decode cX11_findWays 71 = .ok (.iconst 0, 1) := by decide +kernel
theorem dX11_findWays_72 : decode cX11_findWays 72 = .ok (.istore_n 2, 1) := by decide +kernel
theorem dX11_findWays_73 : decode cX11_findWays 73 = .ok (.iload_n 2, 1) := by decide +kernel
theorem dX11_findWays_74 : decode cX11_findWays 74 = .ok (.aload_n 0, 1) := by decide +kernel
theorem dX11_findWays_75 : decode cX11_findWays 75 = .ok (.getfield 214, 3) := by decide +kernel
theorem dX11_findWays_78 : decode cX11_findWays 78 = .ok (.if_icmp .ge 119, 3) := by decide +kernel
theorem dX11_findWays_81 : decode cX11_findWays 81 = .ok (.aload_n 0, 1) := by decide +kernel
theorem dX11_findWays_82 : decode cX11_findWays 82 = .ok (.getfield 59, 3) := by decide +kernel
theorem dX11_findWays_85 : decode cX11_findWays 85 = .ok (.aload_n 0, 1) := by decide +kernel
theorem dX11_findWays_86 : decode cX11_findWays 86 = .ok (.getfield 35, 3) := by decide +kernel
theorem dX11_findWays_89 : decode cX11_findWays 89 = .ok (.iload_n 2, 1) := by decide +kernel
theorem dX11_findWays_90 : decode cX11_findWays 90 = .ok (.iaload, 1) := by decide +kernel
theorem dX11_findWays_91 : decode cX11_findWays 91 = .ok (.baload, 1) := by decide +kernel
theorem dX11_findWays_92 : decode cX11_findWays 92 = .ok (.ifCond .eq 41, 3) := by decide +kernel
theorem dX11_findWays_95 : decode cX11_findWays 95 = .ok (.aload_n 0, 1) := by decide +kernel
theorem dX11_findWays_96 : decode cX11_findWays 96 = .ok (.iload_n 2, 1) := by decide +kernel
theorem dX11_findWays_97 : decode cX11_findWays 97 = .ok (.invokevirtual 232, 3) := by decide +kernel
theorem dX11_findWays_100 : decode cX11_findWays 100 = .ok (.ifCond .le 33, 3) := by decide +kernel
theorem dX11_findWays_103 : decode cX11_findWays 103 = .ok (.aload_n 0, 1) := by decide +kernel
theorem dX11_findWays_104 : decode cX11_findWays 104 = .ok (.aload_n 0, 1) := by decide +kernel
theorem dX11_findWays_105 : decode cX11_findWays 105 = .ok (.getfield 35, 3) := by decide +kernel
theorem dX11_findWays_108 : decode cX11_findWays 108 = .ok (.iload_n 2, 1) := by decide +kernel
theorem dX11_findWays_109 : decode cX11_findWays 109 = .ok (.iaload, 1) := by decide +kernel
theorem dX11_findWays_110 : decode cX11_findWays 110 = .ok (.aload_n 0, 1) := by decide +kernel
theorem dX11_findWays_111 : decode cX11_findWays 111 = .ok (.getfield 38, 3) := by decide +kernel
theorem dX11_findWays_114 : decode cX11_findWays 114 = .ok (.iload_n 2, 1) := by decide +kernel
theorem dX11_findWays_115 : decode cX11_findWays 115 = .ok (.iaload, 1) := by decide +kernel
theorem dX11_findWays_116 : decode cX11_findWays 116 = .ok (.iload_n 2, 1) := by decide +kernel
theorem dX11_findWays_117 : decode cX11_findWays 117 = .ok (.invokevirtual 236, 3) := by decide +kernel
theorem dX11_findWays_120 : decode cX11_findWays 120 = .ok (.ifCond .ne 7, 3) := by decide +kernel
theorem dX11_findWays_123 : decode cX11_findWays 123 = .ok (.iload_n 1, 1) := by decide +kernel
theorem dX11_findWays_124 : decode cX11_findWays 124 = .ok (.ifCond .eq 7, 3) := by decide +kernel
theorem dX11_findWays_127 : decode cX11_findWays 127 = .ok (.iconst 1, 1) := by decide +kernel
theorem dX11_findWays_128 : decode cX11_findWays 128 = .ok (.goto 4, 3) := by decide +kernel
theorem dX11_findWays_131 : decode cX11_findWays 131 = .ok (.iconst 0, 1) := by decide +kernel
theorem dX11_findWays_132 : decode cX11_findWays 132 = .ok (.istore_n 1, 1) := by decide +kernel
theorem dX11_findWays_133 : decode cX11_findWays 133 = .ok (.aload_n 0, 1) := by decide +kernel
theorem dX11_findWays_134 : decode cX11_findWays 134 = .ok (.getfield 59, 3) := by decide +kernel
theorem dX11_findWays_137 : decode cX11_findWays 137 = .ok (.aload_n 0, 1) := by decide +kernel
theorem dX11_findWays_138 : decode cX11_findWays 138 = .ok (.getfield 38, 3) := by decide +kernel
theorem dX11_findWays_141 : decode cX11_findWays 141 = .ok (.iload_n 2, 1) := by decide +kernel
theorem dX11_findWays_142 : decode cX11_findWays 142 = .ok (.iaload, 1) := by decide +kernel
theorem dX11_findWays_143 : decode cX11_findWays 143 = .ok (.baload, 1) := by decide +kernel
theorem dX11_findWays_144 : decode cX11_findWays 144 = .ok (.ifCond .eq 47, 3) := by decide +kernel
theorem dX11_findWays_147 : decode cX11_findWays 147 = .ok (.aload_n 0, 1) := by decide +kernel
theorem dX11_findWays_148 : decode cX11_findWays 148 = .ok (.iload_n 2, 1) := by decide +kernel
theorem dX11_findWays_149 : decode cX11_findWays 149 = .ok (.bipush 100, 2) := by decide +kernel
theorem dX11_findWays_151 : decode cX11_findWays 151 = .ok (.iadd, 1) := by decide +kernel
theorem dX11_findWays_152 : decode cX11_findWays 152 = .ok (.invokevirtual 232, 3) := by decide +kernel
theorem dX11_findWays_155 : decode cX11_findWays 155 = .ok (.ifCond .le 36, 3) := by decide +kernel
theorem dX11_findWays_158 : decode cX11_findWays 158 = .ok (.aload_n 0, 1) := by decide +kernel
theorem dX11_findWays_159 : decode cX11_findWays 159 = .ok (.aload_n 0, 1) := by decide +kernel
theorem dX11_findWays_160 : decode cX11_findWays 160 = .ok (.getfield 38, 3) := by decide +kernel
theorem dX11_findWays_163 : decode cX11_findWays 163 = .ok (.iload_n 2, 1) := by decide +kernel
theorem dX11_findWays_164 : decode cX11_findWays 164 = .ok (.iaload, 1) := by decide +kernel
theorem dX11_findWays_165 : decode cX11_findWays 165 = .ok (.aload_n 0, 1) := by decide +kernel
theorem dX11_findWays_166 : decode cX11_findWays 166 = .ok (.getfield 35, 3) := by decide +kernel
theorem dX11_findWays_169 : decode cX11_findWays 169 = .ok (.iload_n 2, 1) := by decide +kernel
theorem dX11_findWays_170 : decode cX11_findWays 170 = .ok (.iaload, 1) := by decide +kernel
theorem dX11_findWays_171 : decode cX11_findWays 171 = .ok (.iload_n 2, 1) := by decide +kernel
theorem dX11_findWays_172 : decode cX11_findWays 172 = .ok (.bipush 100, 2) := by decide +kernel
theorem dX11_findWays_174 : decode cX11_findWays 174 = .ok (.iadd, 1) := by decide +kernel
theorem dX11_findWays_175 : decode cX11_findWays 175 = .ok (.invokevirtual 236, 3) := by decide +kernel
theorem dX11_findWays_178 : decode cX11_findWays 178 = .ok (.ifCond .ne 7, 3) := by decide +kernel
theorem dX11_findWays_181 : decode cX11_findWays 181 = .ok (.iload_n 1, 1) := by decide +kernel
theorem dX11_findWays_182 : decode cX11_findWays 182 = .ok (.ifCond .eq 7, 3) := by decide +kernel
theorem dX11_findWays_185 : decode cX11_findWays 185 = .ok (.iconst 1, 1) := by decide +kernel
theorem dX11_findWays_186 : decode cX11_findWays 186 = .ok (.goto 4, 3) := by decide +kernel
theorem dX11_findWays_189 : decode cX11_findWays 189 = .ok (.iconst 0, 1) := by decide +kernel
theorem dX11_findWays_190 : decode cX11_findWays 190 = .ok (.istore_n 1, 1) := by decide +kernel
theorem dX11_findWays_191 : decode cX11_findWays 191 = .ok (.iinc 2 1, 3) := by decide +kernel
theorem dX11_findWays_194 : decode cX11_findWays 194 = .ok (.goto (-121), 3) := by decide +kernel
theorem dX11_findWays_197 : decode cX11_findWays 197 = .ok (.goto (-132), 3) := by decide +kernel
theorem dX11_findWays_200 : decode cX11_findWays 200 = .ok (.return_, 1) := by decide +kernel
theorem dX11_isCheaper_0 : decode cX11_isCheaper 0 = .ok (.iconst 0, 1) := by decide +kernel
theorem dX11_isCheaper_1 : decode cX11_isCheaper 1 = .ok (.istore_n 3, 1) := by decide +kernel
theorem dX11_isCheaper_2 : decode cX11_isCheaper 2 = .ok (.iload_n 3, 1) := by decide +kernel
theorem dX11_isCheaper_3 : decode cX11_isCheaper 3 = .ok (.bipush 31, 2) := by decide +kernel
theorem dX11_isCheaper_5 : decode cX11_isCheaper 5 = .ok (.if_icmp .ge 65, 3) := by decide +kernel
theorem dX11_isCheaper_8 : decode cX11_isCheaper 8 = .ok (.aload_n 0, 1) := by decide +kernel
theorem dX11_isCheaper_9 : decode cX11_isCheaper 9 = .ok (.getfield 63, 3) := by decide +kernel
theorem dX11_isCheaper_12 : decode cX11_isCheaper 12 = .ok (.bipush 31, 2) := by decide +kernel
theorem dX11_isCheaper_14 : decode cX11_isCheaper 14 = .ok (.iload_n 1, 1) := by decide +kernel
theorem dX11_isCheaper_15 : decode cX11_isCheaper 15 = .ok (.imul, 1) := by decide +kernel
theorem dX11_isCheaper_16 : decode cX11_isCheaper 16 = .ok (.iload_n 3, 1) := by decide +kernel
theorem dX11_isCheaper_17 : decode cX11_isCheaper 17 = .ok (.iadd, 1) := by decide +kernel
theorem dX11_isCheaper_18 : decode cX11_isCheaper 18 = .ok (.iaload, 1) := by decide +kernel
theorem dX11_isCheaper_19 : decode cX11_isCheaper 19 = .ok (.aload_n 0, 1) := by decide +kernel
theorem dX11_isCheaper_20 : decode cX11_isCheaper 20 = .ok (.getfield 63, 3) := by decide +kernel
theorem dX11_isCheaper_23 : decode cX11_isCheaper 23 = .ok (.bipush 31, 2) := by decide +kernel
theorem dX11_isCheaper_25 : decode cX11_isCheaper 25 = .ok (.iload_n 2, 1) := by decide +kernel
theorem dX11_isCheaper_26 : decode cX11_isCheaper 26 = .ok (.imul, 1) := by decide +kernel
theorem dX11_isCheaper_27 : decode cX11_isCheaper 27 = .ok (.iload_n 3, 1) := by decide +kernel
theorem dX11_isCheaper_28 : decode cX11_isCheaper 28 = .ok (.iadd, 1) := by decide +kernel
theorem dX11_isCheaper_29 : decode cX11_isCheaper 29 = .ok (.iaload, 1) := by decide +kernel
theorem dX11_isCheaper_30 : decode cX11_isCheaper 30 = .ok (.if_icmp .eq 34, 3) := by decide +kernel
theorem dX11_isCheaper_33 : decode cX11_isCheaper 33 = .ok (.aload_n 0, 1) := by decide +kernel
theorem dX11_isCheaper_34 : decode cX11_isCheaper 34 = .ok (.getfield 63, 3) := by decide +kernel
theorem dX11_isCheaper_37 : decode cX11_isCheaper 37 = .ok (.bipush 31, 2) := by decide +kernel
theorem dX11_isCheaper_39 : decode cX11_isCheaper 39 = .ok (.iload_n 1, 1) := by decide +kernel
theorem dX11_isCheaper_40 : decode cX11_isCheaper 40 = .ok (.imul, 1) := by decide +kernel
theorem dX11_isCheaper_41 : decode cX11_isCheaper 41 = .ok (.iload_n 3, 1) := by decide +kernel
theorem dX11_isCheaper_42 : decode cX11_isCheaper 42 = .ok (.iadd, 1) := by decide +kernel
theorem dX11_isCheaper_43 : decode cX11_isCheaper 43 = .ok (.iaload, 1) := by decide +kernel
theorem dX11_isCheaper_44 : decode cX11_isCheaper 44 = .ok (.aload_n 0, 1) := by decide +kernel
theorem dX11_isCheaper_45 : decode cX11_isCheaper 45 = .ok (.getfield 63, 3) := by decide +kernel
theorem dX11_isCheaper_48 : decode cX11_isCheaper 48 = .ok (.bipush 31, 2) := by decide +kernel
theorem dX11_isCheaper_50 : decode cX11_isCheaper 50 = .ok (.iload_n 2, 1) := by decide +kernel
theorem dX11_isCheaper_51 : decode cX11_isCheaper 51 = .ok (.imul, 1) := by decide +kernel
theorem dX11_isCheaper_52 : decode cX11_isCheaper 52 = .ok (.iload_n 3, 1) := by decide +kernel
theorem dX11_isCheaper_53 : decode cX11_isCheaper 53 = .ok (.iadd, 1) := by decide +kernel
theorem dX11_isCheaper_54 : decode cX11_isCheaper 54 = .ok (.iaload, 1) := by decide +kernel
theorem dX11_isCheaper_55 : decode cX11_isCheaper 55 = .ok (.if_icmp .ge 7, 3) := by decide +kernel
theorem dX11_isCheaper_58 : decode cX11_isCheaper 58 = .ok (.iconst 1, 1) := by decide +kernel
theorem dX11_isCheaper_59 : decode cX11_isCheaper 59 = .ok (.goto 4, 3) := by decide +kernel
theorem dX11_isCheaper_62 : decode cX11_isCheaper 62 = .ok (.iconst 0, 1) := by decide +kernel
theorem dX11_isCheaper_63 : decode cX11_isCheaper 63 = .ok (.ireturn, 1) := by decide +kernel
theorem dX11_isCheaper_64 : decode cX11_isCheaper 64 = .ok (.iinc 3 1, 3) := by decide +kernel
theorem dX11_isCheaper_67 : decode cX11_isCheaper 67 = .ok (.goto (-65), 3) := by decide +kernel
theorem dX11_isCheaper_70 : decode cX11_isCheaper 70 = .ok (.iconst 0, 1) := by decide +kernel
theorem dX11_isCheaper_71 : decode cX11_isCheaper 71 = .ok (.ireturn, 1) := by decide +kernel
theorem dX11_sendOn_0 : decode cX11_sendOn 0 = .ok (.aload_n 0, 1) := by decide +kernel
theorem dX11_sendOn_1 : decode cX11_sendOn 1 = .ok (.invokevirtual 239, 3) := by decide +kernel
theorem dX11_sendOn_4 : decode cX11_sendOn 4 = .ok (.iconst (-1), 1) := by decide +kernel
theorem dX11_sendOn_5 : decode cX11_sendOn 5 = .ok (.istore_n 1, 1) := by decide +kernel
theorem dX11_sendOn_6 : decode cX11_sendOn 6 = .ok (.iconst 0, 1) := by decide +kernel
theorem dX11_sendOn_7 : decode cX11_sendOn 7 = .ok (.istore_n 2, 1) := by decide +kernel
theorem dX11_sendOn_8 : decode cX11_sendOn 8 = .ok (.iload_n 2, 1) := by decide +kernel
theorem dX11_sendOn_9 : decode cX11_sendOn 9 = .ok (.bipush 7, 2) := by decide +kernel
theorem dX11_sendOn_11 : decode cX11_sendOn 11 = .ok (.if_icmp .ge 46, 3) := by decide +kernel
theorem dX11_sendOn_14 : decode cX11_sendOn 14 = .ok (.aload_n 0, 1) := by decide +kernel
theorem dX11_sendOn_15 : decode cX11_sendOn 15 = .ok (.getfield 56, 3) := by decide +kernel
theorem dX11_sendOn_18 : decode cX11_sendOn 18 = .ok (.iload_n 2, 1) := by decide +kernel
theorem dX11_sendOn_19 : decode cX11_sendOn 19 = .ok (.iaload, 1) := by decide +kernel
theorem dX11_sendOn_20 : decode cX11_sendOn 20 = .ok (.ifCond .ge 29, 3) := by decide +kernel
theorem dX11_sendOn_23 : decode cX11_sendOn 23 = .ok (.aload_n 0, 1) := by decide +kernel
theorem dX11_sendOn_24 : decode cX11_sendOn 24 = .ok (.getfield 59, 3) := by decide +kernel
theorem dX11_sendOn_27 : decode cX11_sendOn 27 = .ok (.iload_n 2, 1) := by decide +kernel
theorem dX11_sendOn_28 : decode cX11_sendOn 28 = .ok (.baload, 1) := by decide +kernel
theorem dX11_sendOn_29 : decode cX11_sendOn 29 = .ok (.ifCond .eq 20, 3) := by decide +kernel
theorem dX11_sendOn_32 : decode cX11_sendOn 32 = .ok (.iload_n 1, 1) := by decide +kernel
theorem dX11_sendOn_33 : decode cX11_sendOn 33 = .ok (.ifCond .lt 12, 3) := by decide +kernel
theorem dX11_sendOn_36 : decode cX11_sendOn 36 = .ok (.aload_n 0, 1) := by decide +kernel
theorem dX11_sendOn_37 : decode cX11_sendOn 37 = .ok (.iload_n 2, 1) := by decide +kernel
theorem dX11_sendOn_38 : decode cX11_sendOn 38 = .ok (.iload_n 1, 1) := by decide +kernel
theorem dX11_sendOn_39 : decode cX11_sendOn 39 = .ok (.invokevirtual 242, 3) := by decide +kernel
theorem dX11_sendOn_42 : decode cX11_sendOn 42 = .ok (.ifCond .eq 7, 3) := by decide +kernel
theorem dX11_sendOn_45 : decode cX11_sendOn 45 = .ok (.iload_n 2, 1) := by decide +kernel
theorem dX11_sendOn_46 : decode cX11_sendOn 46 = .ok (.goto 4, 3) := by decide +kernel
theorem dX11_sendOn_49 : decode cX11_sendOn 49 = .ok (.iload_n 1, 1) := by decide +kernel
theorem dX11_sendOn_50 : decode cX11_sendOn 50 = .ok (.istore_n 1, 1) := by decide +kernel
theorem dX11_sendOn_51 : decode cX11_sendOn 51 = .ok (.iinc 2 1, 3) := by decide +kernel
theorem dX11_sendOn_54 : decode cX11_sendOn 54 = .ok (.goto (-46), 3) := by decide +kernel
theorem dX11_sendOn_57 : decode cX11_sendOn 57 = .ok (.iload_n 1, 1) := by decide +kernel
theorem dX11_sendOn_58 : decode cX11_sendOn 58 = .ok (.ifCond .ge 5, 3) := by decide +kernel
theorem dX11_sendOn_61 : decode cX11_sendOn 61 = .ok (.iconst 0, 1) := by decide +kernel
theorem dX11_sendOn_62 : decode cX11_sendOn 62 = .ok (.ireturn, 1) := by decide +kernel
theorem dX11_sendOn_63 : decode cX11_sendOn 63 = .ok (.aload_n 0, 1) := by decide +kernel
theorem dX11_sendOn_64 : decode cX11_sendOn 64 = .ok (.getfield 56, 3) := by decide +kernel
theorem dX11_sendOn_67 : decode cX11_sendOn 67 = .ok (.iload_n 1, 1) := by decide +kernel
theorem dX11_sendOn_68 : decode cX11_sendOn 68 = .ok (.iaload, 1) := by decide +kernel
theorem dX11_sendOn_69 : decode cX11_sendOn 69 = .ok (.ineg, 1) := by decide +kernel
theorem dX11_sendOn_70 : decode cX11_sendOn 70 = .ok (.istore_n 2, 1) := by decide +kernel
theorem dX11_sendOn_71 : decode cX11_sendOn 71 = .ok (.iload_n 1, 1) := by decide +kernel
theorem dX11_sendOn_72 : decode cX11_sendOn 72 = .ok (.istore_n 3, 1) := by decide +kernel
theorem dX11_sendOn_73 : decode cX11_sendOn 73 = .ok (.aload_n 0, 1) := by decide +kernel
theorem dX11_sendOn_74 : decode cX11_sendOn 74 = .ok (.getfield 66, 3) := by decide +kernel
theorem dX11_sendOn_77 : decode cX11_sendOn 77 = .ok (.iload_n 3, 1) := by decide +kernel
theorem dX11_sendOn_78 : decode cX11_sendOn 78 = .ok (.iaload, 1) := by decide +kernel
theorem dX11_sendOn_79 : decode cX11_sendOn 79 = .ok (.ifCond .lt 75, 3) := by decide +kernel
theorem dX11_sendOn_82 : decode cX11_sendOn 82 = .ok (.aload_n 0, 1) := by decide +kernel
theorem dX11_sendOn_83 : decode cX11_sendOn 83 = .ok (.aload_n 0, 1) := by decide +kernel
theorem dX11_sendOn_84 : decode cX11_sendOn 84 = .ok (.getfield 66, 3) := by decide +kernel
theorem dX11_sendOn_87 : decode cX11_sendOn 87 = .ok (.iload_n 3, 1) := by decide +kernel
theorem dX11_sendOn_88 : decode cX11_sendOn 88 = .ok (.iaload, 1) := by decide +kernel
theorem dX11_sendOn_89 : decode cX11_sendOn 89 = .ok (.invokevirtual 232, 3) := by decide +kernel
theorem dX11_sendOn_92 : decode cX11_sendOn 92 = .ok (.iload_n 2, 1) := by decide +kernel
theorem dX11_sendOn_93 : decode cX11_sendOn 93 = .ok (.if_icmp .ge 16, 3) := by decide +kernel
theorem dX11_sendOn_96 : decode cX11_sendOn 96 = .ok (.aload_n 0, 1) := by decide +kernel
theorem dX11_sendOn_97 : decode cX11_sendOn 97 = .ok (.aload_n 0, 1) := by decide +kernel
theorem dX11_sendOn_98 : decode cX11_sendOn 98 = .ok (.getfield 66, 3) := by decide +kernel
theorem dX11_sendOn_101 : decode cX11_sendOn 101 = .ok (.iload_n 3, 1) := by decide +kernel
theorem dX11_sendOn_102 : decode cX11_sendOn 102 = .ok (.iaload, 1) := by decide +kernel
theorem dX11_sendOn_103 : decode cX11_sendOn 103 = .ok (.invokevirtual 232, 3) := by decide +kernel
theorem dX11_sendOn_106 : decode cX11_sendOn 106 = .ok (.goto 4, 3) := by decide +kernel
theorem dX11_sendOn_109 : decode cX11_sendOn 109 = .ok (.iload_n 2, 1) := by decide +kernel
theorem dX11_sendOn_110 : decode cX11_sendOn 110 = .ok (.istore_n 2, 1) := by decide +kernel
theorem dX11_sendOn_111 : decode cX11_sendOn 111 = .ok (.aload_n 0, 1) := by decide +kernel
theorem dX11_sendOn_112 : decode cX11_sendOn 112 = .ok (.getfield 66, 3) := by decide +kernel
theorem dX11_sendOn_115 : decode cX11_sendOn 115 = .ok (.iload_n 3, 1) := by decide +kernel
theorem dX11_sendOn_116 : decode cX11_sendOn 116 = .ok (.iaload, 1) := by decide +kernel
theorem dX11_sendOn_117 : decode cX11_sendOn 117 = .ok (.bipush 100, 2) := by decide +kernel
theorem dX11_sendOn_119 : decode cX11_sendOn 119 = .ok (.if_icmp .ge 17, 3) := by decide +kernel
theorem dX11_sendOn_122 : decode cX11_sendOn 122 = .ok (.aload_n 0, 1) := by decide +kernel
theorem dX11_sendOn_123 : decode cX11_sendOn 123 = .ok (.getfield 35, 3) := by decide +kernel
theorem dX11_sendOn_126 : decode cX11_sendOn 126 = .ok (.aload_n 0, 1) := by decide +kernel
theorem dX11_sendOn_127 : decode cX11_sendOn 127 = .ok (.getfield 66, 3) := by decide +kernel
theorem dX11_sendOn_130 : decode cX11_sendOn 130 = .ok (.iload_n 3, 1) := by decide +kernel
theorem dX11_sendOn_131 : decode cX11_sendOn 131 = .ok (.iaload, 1) := by decide +kernel
theorem dX11_sendOn_132 : decode cX11_sendOn 132 = .ok (.iaload, 1) := by decide +kernel
theorem dX11_sendOn_133 : decode cX11_sendOn 133 = .ok (.goto 17, 3) := by decide +kernel
theorem dX11_sendOn_136 : decode cX11_sendOn 136 = .ok (.aload_n 0, 1) := by decide +kernel
theorem dX11_sendOn_137 : decode cX11_sendOn 137 = .ok (.getfield 38, 3) := by decide +kernel
theorem dX11_sendOn_140 : decode cX11_sendOn 140 = .ok (.aload_n 0, 1) := by decide +kernel
theorem dX11_sendOn_141 : decode cX11_sendOn 141 = .ok (.getfield 66, 3) := by decide +kernel
theorem dX11_sendOn_144 : decode cX11_sendOn 144 = .ok (.iload_n 3, 1) := by decide +kernel
theorem dX11_sendOn_145 : decode cX11_sendOn 145 = .ok (.iaload, 1) := by decide +kernel
theorem dX11_sendOn_146 : decode cX11_sendOn 146 = .ok (.bipush 100, 2) := by decide +kernel
theorem dX11_sendOn_148 : decode cX11_sendOn 148 = .ok (.isub, 1) := by decide +kernel
theorem dX11_sendOn_149 : decode cX11_sendOn 149 = .ok (.iaload, 1) := by decide +kernel
theorem dX11_sendOn_150 : decode cX11_sendOn 150 = .ok (.istore_n 3, 1) := by decide +kernel
theorem dX11_sendOn_151 : decode cX11_sendOn 151 = .ok (.goto (-78), 3) := by decide +kernel
theorem dX11_sendOn_154 : decode cX11_sendOn 154 = .ok (.aload_n 0, 1) := by decide +kernel
theorem dX11_sendOn_155 : decode cX11_sendOn 155 = .ok (.getfield 56, 3) := by decide +kernel
theorem dX11_sendOn_158 : decode cX11_sendOn 158 = .ok (.iload_n 3, 1) := by decide +kernel
theorem dX11_sendOn_159 : decode cX11_sendOn 159 = .ok (.iaload, 1) := by decide +kernel
theorem dX11_sendOn_160 : decode cX11_sendOn 160 = .ok (.iload_n 2, 1) := by decide +kernel
theorem dX11_sendOn_161 : decode cX11_sendOn 161 = .ok (.if_icmp .ge 12, 3) := by decide +kernel
theorem dX11_sendOn_164 : decode cX11_sendOn 164 = .ok (.aload_n 0, 1) := by decide +kernel
theorem dX11_sendOn_165 : decode cX11_sendOn 165 = .ok (.getfield 56, 3) := by decide +kernel
theorem dX11_sendOn_168 : decode cX11_sendOn 168 = .ok (.iload_n 3, 1) := by decide +kernel
theorem dX11_sendOn_169 : decode cX11_sendOn 169 = .ok (.iaload, 1) := by decide +kernel
theorem dX11_sendOn_170 : decode cX11_sendOn 170 = .ok (.goto 4, 3) := by decide +kernel
theorem dX11_sendOn_173 : decode cX11_sendOn 173 = .ok (.iload_n 2, 1) := by decide +kernel
theorem dX11_sendOn_174 : decode cX11_sendOn 174 = .ok (.istore_n 2, 1) := by decide +kernel
theorem dX11_sendOn_175 : decode cX11_sendOn 175 = .ok (.aload_n 0, 1) := by decide +kernel
theorem dX11_sendOn_176 : decode cX11_sendOn 176 = .ok (.getfield 56, 3) := by decide +kernel
theorem dX11_sendOn_179 : decode cX11_sendOn 179 = .ok (.iload_n 3, 1) := by decide +kernel
theorem dX11_sendOn_180 : decode cX11_sendOn 180 = .ok (.dup2, 1) := by decide +kernel
theorem dX11_sendOn_181 : decode cX11_sendOn 181 = .ok (.iaload, 1) := by decide +kernel
theorem dX11_sendOn_182 : decode cX11_sendOn 182 = .ok (.iload_n 2, 1) := by decide +kernel
theorem dX11_sendOn_183 : decode cX11_sendOn 183 = .ok (.isub, 1) := by decide +kernel
theorem dX11_sendOn_184 : decode cX11_sendOn 184 = .ok (.iastore, 1) := by decide +kernel
theorem dX11_sendOn_185 : decode cX11_sendOn 185 = .ok (.aload_n 0, 1) := by decide +kernel
theorem dX11_sendOn_186 : decode cX11_sendOn 186 = .ok (.getfield 56, 3) := by decide +kernel
theorem dX11_sendOn_189 : decode cX11_sendOn 189 = .ok (.iload_n 1, 1) := by decide +kernel
theorem dX11_sendOn_190 : decode cX11_sendOn 190 = .ok (.dup2, 1) := by decide +kernel
theorem dX11_sendOn_191 : decode cX11_sendOn 191 = .ok (.iaload, 1) := by decide +kernel
theorem dX11_sendOn_192 : decode cX11_sendOn 192 = .ok (.iload_n 2, 1) := by decide +kernel
theorem dX11_sendOn_193 : decode cX11_sendOn 193 = .ok (.iadd, 1) := by decide +kernel
theorem dX11_sendOn_194 : decode cX11_sendOn 194 = .ok (.iastore, 1) := by decide +kernel
theorem dX11_sendOn_195 : decode cX11_sendOn 195 = .ok (.iload_n 1, 1) := by decide +kernel
theorem dX11_sendOn_196 : decode cX11_sendOn 196 = .ok (.istore_n 3, 1) := by decide +kernel
theorem dX11_sendOn_197 : decode cX11_sendOn 197 = .ok (.aload_n 0, 1) := by decide +kernel
theorem dX11_sendOn_198 : decode cX11_sendOn 198 = .ok (.getfield 66, 3) := by decide +kernel
theorem dX11_sendOn_201 : decode cX11_sendOn 201 = .ok (.iload_n 3, 1) := by decide +kernel
theorem dX11_sendOn_202 : decode cX11_sendOn 202 = .ok (.iaload, 1) := by decide +kernel
theorem dX11_sendOn_203 : decode cX11_sendOn 203 = .ok (.ifCond .lt 73, 3) := by decide +kernel
theorem dX11_sendOn_206 : decode cX11_sendOn 206 = .ok (.aload_n 0, 1) := by decide +kernel
theorem dX11_sendOn_207 : decode cX11_sendOn 207 = .ok (.getfield 66, 3) := by decide +kernel
theorem dX11_sendOn_210 : decode cX11_sendOn 210 = .ok (.iload_n 3, 1) := by decide +kernel
theorem dX11_sendOn_211 : decode cX11_sendOn 211 = .ok (.iaload, 1) := by decide +kernel
theorem dX11_sendOn_212 : decode cX11_sendOn 212 = .ok (.bipush 100, 2) := by decide +kernel
theorem dX11_sendOn_214 : decode cX11_sendOn 214 = .ok (.irem, 1) := by decide +kernel
theorem dX11_sendOn_215 : decode cX11_sendOn 215 = .ok (.istore 4, 2) := by decide +kernel
theorem dX11_sendOn_217 : decode cX11_sendOn 217 = .ok (.aload_n 0, 1) := by decide +kernel
theorem dX11_sendOn_218 : decode cX11_sendOn 218 = .ok (.getfield 53, 3) := by decide +kernel
theorem dX11_sendOn_221 : decode cX11_sendOn 221 = .ok (.iload 4, 2) := by decide +kernel
theorem dX11_sendOn_223 : decode cX11_sendOn 223 = .ok (.dup2, 1) := by decide +kernel
theorem dX11_sendOn_224 : decode cX11_sendOn 224 = .ok (.iaload, 1) := by decide +kernel
theorem dX11_sendOn_225 : decode cX11_sendOn 225 = .ok (.aload_n 0, 1) := by decide +kernel
theorem dX11_sendOn_226 : decode cX11_sendOn 226 = .ok (.getfield 66, 3) := by decide +kernel
theorem dX11_sendOn_229 : decode cX11_sendOn 229 = .ok (.iload_n 3, 1) := by decide +kernel
theorem dX11_sendOn_230 : decode cX11_sendOn 230 = .ok (.iaload, 1) := by decide +kernel
theorem dX11_sendOn_231 : decode cX11_sendOn 231 = .ok (.bipush 100, 2) := by decide +kernel
theorem dX11_sendOn_233 : decode cX11_sendOn 233 = .ok (.if_icmp .ge 7, 3) := by decide +kernel
theorem dX11_sendOn_236 : decode cX11_sendOn 236 = .ok (.iload_n 2, 1) := by decide +kernel
theorem dX11_sendOn_237 : decode cX11_sendOn 237 = .ok (.goto 5, 3) := by decide +kernel
theorem dX11_sendOn_240 : decode cX11_sendOn 240 = .ok (.iload_n 2, 1) := by decide +kernel
theorem dX11_sendOn_241 : decode cX11_sendOn 241 = .ok (.ineg, 1) := by decide +kernel
theorem dX11_sendOn_242 : decode cX11_sendOn 242 = .ok (.iadd, 1) := by decide +kernel
theorem dX11_sendOn_243 : decode cX11_sendOn 243 = .ok (.iastore, 1) := by decide +kernel
theorem dX11_sendOn_244 : decode cX11_sendOn 244 = .ok (.aload_n 0, 1) := by decide +kernel
theorem dX11_sendOn_245 : decode cX11_sendOn 245 = .ok (.getfield 66, 3) := by decide +kernel
theorem dX11_sendOn_248 : decode cX11_sendOn 248 = .ok (.iload_n 3, 1) := by decide +kernel
theorem dX11_sendOn_249 : decode cX11_sendOn 249 = .ok (.iaload, 1) := by decide +kernel
theorem dX11_sendOn_250 : decode cX11_sendOn 250 = .ok (.bipush 100, 2) := by decide +kernel
theorem dX11_sendOn_252 : decode cX11_sendOn 252 = .ok (.if_icmp .ge 13, 3) := by decide +kernel
theorem dX11_sendOn_255 : decode cX11_sendOn 255 = .ok (.aload_n 0, 1) := by decide +kernel
theorem dX11_sendOn_256 : decode cX11_sendOn 256 = .ok (.getfield 35, 3) := by decide +kernel
theorem dX11_sendOn_259 : decode cX11_sendOn 259 = .ok (.iload 4, 2) := by decide +kernel
theorem dX11_sendOn_261 : decode cX11_sendOn 261 = .ok (.iaload, 1) := by decide +kernel
theorem dX11_sendOn_262 : decode cX11_sendOn 262 = .ok (.goto 10, 3) := by decide +kernel
theorem dX11_sendOn_265 : decode cX11_sendOn 265 = .ok (.aload_n 0, 1) := by decide +kernel
theorem dX11_sendOn_266 : decode cX11_sendOn 266 = .ok (.getfield 38, 3) := by decide +kernel
theorem dX11_sendOn_269 : decode cX11_sendOn 269 = .ok (.iload 4, 2) := by decide +kernel
theorem dX11_sendOn_271 : decode cX11_sendOn 271 = .ok (.iaload, 1) := by decide +kernel
theorem dX11_sendOn_272 : decode cX11_sendOn 272 = .ok (.istore_n 3, 1) := by decide +kernel
theorem dX11_sendOn_273 : decode cX11_sendOn 273 = .ok (.goto (-76), 3) := by decide +kernel
theorem dX11_sendOn_276 : decode cX11_sendOn 276 = .ok (.iconst 1, 1) := by decide +kernel
theorem dX11_sendOn_277 : decode cX11_sendOn 277 = .ok (.ireturn, 1) := by decide +kernel
theorem dX11_findFlow_0 : decode cX11_findFlow 0 = .ok (.aload_n 0, 1) := by decide +kernel
theorem dX11_findFlow_1 : decode cX11_findFlow 1 = .ok (.iload_n 1, 1) := by decide +kernel
theorem dX11_findFlow_2 : decode cX11_findFlow 2 = .ok (.invokevirtual 245, 3) := by decide +kernel
theorem dX11_findFlow_5 : decode cX11_findFlow 5 = .ok (.ifCond .ne 5, 3) := by decide +kernel
theorem dX11_findFlow_8 : decode cX11_findFlow 8 = .ok (.iconst 0, 1) := by decide +kernel
theorem dX11_findFlow_9 : decode cX11_findFlow 9 = .ok (.ireturn, 1) := by decide +kernel
theorem dX11_findFlow_10 : decode cX11_findFlow 10 = .ok (.iconst 1, 1) := by decide +kernel
theorem dX11_findFlow_11 : decode cX11_findFlow 11 = .ok (.istore_n 2, 1) := by decide +kernel
theorem dX11_findFlow_12 : decode cX11_findFlow 12 = .ok (.iload_n 2, 1) := by decide +kernel
theorem dX11_findFlow_13 : decode cX11_findFlow 13 = .ok (.ifCond .eq 11, 3) := by decide +kernel
theorem dX11_findFlow_16 : decode cX11_findFlow 16 = .ok (.aload_n 0, 1) := by decide +kernel
theorem dX11_findFlow_17 : decode cX11_findFlow 17 = .ok (.invokevirtual 248, 3) := by decide +kernel
theorem dX11_findFlow_20 : decode cX11_findFlow 20 = .ok (.istore_n 2, 1) := by decide +kernel
theorem dX11_findFlow_21 : decode cX11_findFlow 21 = .ok (.goto (-9), 3) := by decide +kernel
theorem dX11_findFlow_24 : decode cX11_findFlow 24 = .ok (.iconst 1, 1) := by decide +kernel
theorem dX11_findFlow_25 : decode cX11_findFlow 25 = .ok (.istore_n 3, 1) := by decide +kernel
theorem dX11_findFlow_26 : decode cX11_findFlow 26 = .ok (.iconst 0, 1) := by decide +kernel
theorem dX11_findFlow_27 : decode cX11_findFlow 27 = .ok (.istore 4, 2) := by decide +kernel
theorem dX11_findFlow_29 : decode cX11_findFlow 29 = .ok (.iload 4, 2) := by decide +kernel
theorem dX11_findFlow_31 : decode cX11_findFlow 31 = .ok (.bipush 7, 2) := by decide +kernel
theorem dX11_findFlow_33 : decode cX11_findFlow 33 = .ok (.if_icmp .ge 29, 3) := by decide +kernel
theorem dX11_findFlow_36 : decode cX11_findFlow 36 = .ok (.iload_n 3, 1) := by decide +kernel
theorem dX11_findFlow_37 : decode cX11_findFlow 37 = .ok (.ifCond .eq 17, 3) := by decide +kernel
theorem dX11_findFlow_40 : decode cX11_findFlow 40 = .ok (.aload_n 0, 1) := by decide +kernel
theorem dX11_findFlow_41 : decode cX11_findFlow 41 = .ok (.getfield 56, 3) := by decide +kernel
theorem dX11_findFlow_44 : decode cX11_findFlow 44 = .ok (.iload 4, 2) := by decide +kernel
theorem dX11_findFlow_46 : decode cX11_findFlow 46 = .ok (.iaload, 1) := by decide +kernel
theorem dX11_findFlow_47 : decode cX11_findFlow 47 = .ok (.ifCond .ne 7, 3) := by decide +kernel
theorem dX11_findFlow_50 : decode cX11_findFlow 50 = .ok (.iconst 1, 1) := by decide +kernel
theorem dX11_findFlow_51 : decode cX11_findFlow 51 = .ok (.goto 4, 3) := by decide +kernel
theorem dX11_findFlow_54 : decode cX11_findFlow 54 = .ok (.iconst 0, 1) := by decide +kernel
theorem dX11_findFlow_55 : decode cX11_findFlow 55 = .ok (.istore_n 3, 1) := by decide +kernel
theorem dX11_findFlow_56 : decode cX11_findFlow 56 = .ok (.iinc 4 1, 3) := by decide +kernel
theorem dX11_findFlow_59 : decode cX11_findFlow 59 = .ok (.goto (-30), 3) := by decide +kernel
theorem dX11_findFlow_62 : decode cX11_findFlow 62 = .ok (.iconst 0, 1) := by decide +kernel
theorem dX11_findFlow_63 : decode cX11_findFlow 63 = .ok (.istore 4, 2) := by decide +kernel
theorem dX11_findFlow_65 : decode cX11_findFlow 65 = .ok (.iload 4, 2) := by decide +kernel
theorem dX11_findFlow_67 : decode cX11_findFlow 67 = .ok (.aload_n 0, 1) := by decide +kernel
theorem dX11_findFlow_68 : decode cX11_findFlow 68 = .ok (.getfield 214, 3) := by decide +kernel
theorem dX11_findFlow_71 : decode cX11_findFlow 71 = .ok (.if_icmp .ge 101, 3) := by decide +kernel
theorem dX11_findFlow_74 : decode cX11_findFlow 74 = .ok (.aload_n 0, 1) := by decide +kernel
theorem dX11_findFlow_75 : decode cX11_findFlow 75 = .ok (.dup, 1) := by decide +kernel
theorem dX11_findFlow_76 : decode cX11_findFlow 76 = .ok (.getfield 252, 3) := by decide +kernel
theorem dX11_findFlow_79 : decode cX11_findFlow 79 = .ok (.aload_n 0, 1) := by decide +kernel
theorem dX11_findFlow_80 : decode cX11_findFlow 80 = .ok (.getfield 53, 3) := by decide +kernel
theorem dX11_findFlow_83 : decode cX11_findFlow 83 = .ok (.iload 4, 2) := by decide +kernel
theorem dX11_findFlow_85 : decode cX11_findFlow 85 = .ok (.iaload, 1) := by decide +kernel
theorem dX11_findFlow_86 : decode cX11_findFlow 86 = .ok (.aload_n 0, 1) := by decide +kernel
theorem dX11_findFlow_87 : decode cX11_findFlow 87 = .ok (.getfield 47, 3) := by decide +kernel
theorem dX11_findFlow_90 : decode cX11_findFlow 90 = .ok (.iload 4, 2) := by decide +kernel
theorem dX11_findFlow_92 : decode cX11_findFlow 92 = .ok (.iaload, 1) := by decide +kernel
theorem dX11_findFlow_93 : decode cX11_findFlow 93 = .ok (.imul, 1) := by decide +kernel
theorem dX11_findFlow_94 : decode cX11_findFlow 94 = .ok (.iadd, 1) := by decide +kernel
theorem dX11_findFlow_95 : decode cX11_findFlow 95 = .ok (.putfield 252, 3) := by decide +kernel
theorem dX11_findFlow_98 : decode cX11_findFlow 98 = .ok (.aload_n 0, 1) := by decide +kernel
theorem dX11_findFlow_99 : decode cX11_findFlow 99 = .ok (.getfield 50, 3) := by decide +kernel
theorem dX11_findFlow_102 : decode cX11_findFlow 102 = .ok (.iload 4, 2) := by decide +kernel
theorem dX11_findFlow_104 : decode cX11_findFlow 104 = .ok (.iaload, 1) := by decide +kernel
theorem dX11_findFlow_105 : decode cX11_findFlow 105 = .ok (.ifCond .lt 27, 3) := by decide +kernel
theorem dX11_findFlow_108 : decode cX11_findFlow 108 = .ok (.aload_n 0, 1) := by decide +kernel
theorem dX11_findFlow_109 : decode cX11_findFlow 109 = .ok (.getfield 69, 3) := by decide +kernel
theorem dX11_findFlow_112 : decode cX11_findFlow 112 = .ok (.bipush 30, 2) := by decide +kernel
theorem dX11_findFlow_114 : decode cX11_findFlow 114 = .ok (.iload_n 1, 1) := by decide +kernel
theorem dX11_findFlow_115 : decode cX11_findFlow 115 = .ok (.imul, 1) := by decide +kernel
theorem dX11_findFlow_116 : decode cX11_findFlow 116 = .ok (.aload_n 0, 1) := by decide +kernel
theorem dX11_findFlow_117 : decode cX11_findFlow 117 = .ok (.getfield 50, 3) := by decide +kernel
theorem dX11_findFlow_120 : decode cX11_findFlow 120 = .ok (.iload 4, 2) := by decide +kernel
theorem dX11_findFlow_122 : decode cX11_findFlow 122 = .ok (.iaload, 1) := by decide +kernel
theorem dX11_findFlow_123 : decode cX11_findFlow 123 = .ok (.iadd, 1) := by decide +kernel
theorem dX11_findFlow_124 : decode cX11_findFlow 124 = .ok (.aload_n 0, 1) := by decide +kernel
theorem dX11_findFlow_125 : decode cX11_findFlow 125 = .ok (.getfield 53, 3) := by decide +kernel
theorem dX11_findFlow_128 : decode cX11_findFlow 128 = .ok (.iload 4, 2) := by decide +kernel
theorem dX11_findFlow_130 : decode cX11_findFlow 130 = .ok (.iaload, 1) := by decide +kernel
theorem dX11_findFlow_131 : decode cX11_findFlow 131 = .ok (.iastore, 1) := by decide +kernel
theorem dX11_findFlow_132 : decode cX11_findFlow 132 = .ok (.aload_n 0, 1) := by decide +kernel
theorem dX11_findFlow_133 : decode cX11_findFlow 133 = .ok (.getfield 38, 3) := by decide +kernel
theorem dX11_findFlow_136 : decode cX11_findFlow 136 = .ok (.iload 4, 2) := by decide +kernel
theorem dX11_findFlow_138 : decode cX11_findFlow 138 = .ok (.iaload, 1) := by decide +kernel
theorem dX11_findFlow_139 : decode cX11_findFlow 139 = .ok (.iconst 5, 1) := by decide +kernel
theorem dX11_findFlow_140 : decode cX11_findFlow 140 = .ok (.if_icmp .ne 26, 3) := by decide +kernel
theorem dX11_findFlow_143 : decode cX11_findFlow 143 = .ok (.aload_n 0, 1) := by decide +kernel
theorem dX11_findFlow_144 : decode cX11_findFlow 144 = .ok (.getfield 72, 3) := by decide +kernel
theorem dX11_findFlow_147 : decode cX11_findFlow 147 = .ok (.iconst 2, 1) := by decide +kernel
theorem dX11_findFlow_148 : decode cX11_findFlow 148 = .ok (.aload_n 0, 1) := by decide +kernel
theorem dX11_findFlow_149 : decode cX11_findFlow 149 = .ok (.getfield 35, 3) := by decide +kernel
theorem dX11_findFlow_152 : decode cX11_findFlow 152 = .ok (.iload 4, 2) := by decide +kernel
theorem dX11_findFlow_154 : decode cX11_findFlow 154 = .ok (.iaload, 1) := by decide +kernel
theorem dX11_findFlow_155 : decode cX11_findFlow 155 = .ok (.imul, 1) := by decide +kernel
theorem dX11_findFlow_156 : decode cX11_findFlow 156 = .ok (.iload_n 1, 1) := by decide +kernel
theorem dX11_findFlow_157 : decode cX11_findFlow 157 = .ok (.iadd, 1) := by decide +kernel
theorem dX11_findFlow_158 : decode cX11_findFlow 158 = .ok (.aload_n 0, 1) := by decide +kernel
theorem dX11_findFlow_159 : decode cX11_findFlow 159 = .ok (.getfield 53, 3) := by decide +kernel
theorem dX11_findFlow_162 : decode cX11_findFlow 162 = .ok (.iload 4, 2) := by decide +kernel
theorem dX11_findFlow_164 : decode cX11_findFlow 164 = .ok (.iaload, 1) := by decide +kernel
theorem dX11_findFlow_165 : decode cX11_findFlow 165 = .ok (.iastore, 1) := by decide +kernel
theorem dX11_findFlow_166 : decode cX11_findFlow 166 = .ok (.iinc 4 1, 3) := by decide +kernel
theorem dX11_findFlow_169 : decode cX11_findFlow 169 = .ok (.goto (-104), 3) := by decide +kernel
theorem dX11_findFlow_172 : decode cX11_findFlow 172 = .ok (.iload_n 3, 1) := by decide +kernel
theorem dX11_findFlow_173 : decode cX11_findFlow 173 = .ok (.ireturn, 1) := by decide +kernel
theorem dX11_findRepair_0 : decode cX11_findRepair 0 = .ok (.aload_n 0, 1) := by decide +kernel
theorem dX11_findRepair_1 : decode cX11_findRepair 1 = .ok (.invokevirtual 178, 3) := by decide +kernel
theorem dX11_findRepair_4 : decode cX11_findRepair 4 = .ok (.ifCond .le 6, 3) := by decide +kernel
theorem dX11_findRepair_7 : decode cX11_findRepair 7 = .ok (.ldc 125, 2) := by decide +kernel
theorem dX11_findRepair_9 : decode cX11_findRepair 9 = .ok (.ireturn, 1) := by decide +kernel
theorem dX11_findRepair_10 : decode cX11_findRepair 10 = .ok (.aload_n 0, 1) := by decide +kernel
theorem dX11_findRepair_11 : decode cX11_findRepair 11 = .ok (.iconst 0, 1) := by decide +kernel
theorem dX11_findRepair_12 : decode cX11_findRepair 12 = .ok (.putfield 252, 3) := by decide +kernel
theorem dX11_findRepair_15 : decode cX11_findRepair 15 = .ok (.aload_n 0, 1) := by decide +kernel
theorem dX11_findRepair_16 : decode cX11_findRepair 16 = .ok (.iconst 0, 1) := by decide +kernel
theorem dX11_findRepair_17 : decode cX11_findRepair 17 = .ok (.invokevirtual 255, 3) := by decide +kernel
theorem dX11_findRepair_20 : decode cX11_findRepair 20 = .ok (.ifCond .eq 15, 3) := by decide +kernel
theorem dX11_findRepair_23 : decode cX11_findRepair 23 = .ok (.aload_n 0, 1) := by decide +kernel
theorem dX11_findRepair_24 : decode cX11_findRepair 24 = .ok (.iconst 1, 1) := by decide +kernel
theorem dX11_findRepair_25 : decode cX11_findRepair 25 = .ok (.invokevirtual 255, 3) := by decide +kernel
theorem dX11_findRepair_28 : decode cX11_findRepair 28 = .ok (.ifCond .eq 7, 3) := by decide +kernel
theorem dX11_findRepair_31 : decode cX11_findRepair 31 = .ok (.iconst 0, 1) := by decide +kernel
theorem dX11_findRepair_32 : decode cX11_findRepair 32 = .ok (.goto 5, 3) := by decide +kernel
theorem dX11_findRepair_35 : decode cX11_findRepair 35 = .ok (.ldc 127, 2) := by decide +kernel
theorem dX11_findRepair_37 : decode cX11_findRepair 37 = .ok (.ireturn, 1) := by decide +kernel
theorem dX11_repairCost_0 : decode cX11_repairCost 0 = .ok (.aload_n 0, 1) := by decide +kernel
theorem dX11_repairCost_1 : decode cX11_repairCost 1 = .ok (.invokevirtual 258, 3) := by decide +kernel
theorem dX11_repairCost_4 : decode cX11_repairCost 4 = .ok (.istore_n 1, 1) := by decide +kernel
theorem dX11_repairCost_5 : decode cX11_repairCost 5 = .ok (.iload_n 1, 1) := by decide +kernel
theorem dX11_repairCost_6 : decode cX11_repairCost 6 = .ok (.ifCond .ge 7, 3) := by decide +kernel
theorem dX11_repairCost_9 : decode cX11_repairCost 9 = .ok (.iload_n 1, 1) := by decide +kernel
theorem dX11_repairCost_10 : decode cX11_repairCost 10 = .ok (.goto 7, 3) := by decide +kernel
theorem dX11_repairCost_13 : decode cX11_repairCost 13 = .ok (.aload_n 0, 1) := by decide +kernel
theorem dX11_repairCost_14 : decode cX11_repairCost 14 = .ok (.getfield 252, 3) := by decide +kernel
theorem dX11_repairCost_17 : decode cX11_repairCost 17 = .ok (.ireturn, 1) := by decide +kernel
theorem dX11_moved_0 : decode cX11_moved 0 = .ok (.aload_n 0, 1) := by decide +kernel
theorem dX11_moved_1 : decode cX11_moved 1 = .ok (.iload_n 1, 1) := by decide +kernel
theorem dX11_moved_2 : decode cX11_moved 2 = .ok (.iload_n 2, 1) := by decide +kernel
theorem dX11_moved_3 : decode cX11_moved 3 = .ok (.invokevirtual 142, 3) := by decide +kernel
theorem dX11_moved_6 : decode cX11_moved 6 = .ok (.ifCond .ne 12, 3) := by decide +kernel
theorem dX11_moved_9 : decode cX11_moved 9 = .ok (.iload_n 3, 1) := by decide +kernel
theorem dX11_moved_10 : decode cX11_moved 10 = .ok (.iconst 0, 1) := by decide +kernel
theorem dX11_moved_11 : decode cX11_moved 11 = .ok (.iconst 1, 1) := by decide +kernel
theorem dX11_moved_12 : decode cX11_moved 12 = .ok (.invokestatic 99, 3) := by decide +kernel
theorem dX11_moved_15 : decode cX11_moved 15 = .ok (.ifCond .ne 6, 3) := by decide +kernel
theorem dX11_moved_18 : decode cX11_moved 18 = .ok (.ldc 112, 2) := by decide +kernel
theorem dX11_moved_20 : decode cX11_moved 20 = .ok (.ireturn, 1) := by decide +kernel
theorem dX11_moved_21 : decode cX11_moved 21 = .ok (.aload_n 0, 1) := by decide +kernel
theorem dX11_moved_22 : decode cX11_moved 22 = .ok (.invokevirtual 258, 3) := by decide +kernel
theorem dX11_moved_25 : decode cX11_moved 25 = .ok (.istore 4, 2) := by decide +kernel
theorem dX11_moved_27 : decode cX11_moved 27 = .ok (.iload 4, 2) := by decide +kernel
theorem dX11_moved_29 : decode cX11_moved 29 = .ok (.ifCond .ge 8, 3) := by decide +kernel
theorem dX11_moved_32 : decode cX11_moved 32 = .ok (.iload 4, 2) := by decide +kernel
theorem dX11_moved_34 : decode cX11_moved 34 = .ok (.goto 34, 3) := by decide +kernel
theorem dX11_moved_37 : decode cX11_moved 37 = .ok (.aload_n 0, 1) := by decide +kernel
theorem dX11_moved_38 : decode cX11_moved 38 = .ok (.getfield 69, 3) := by decide +kernel
theorem dX11_moved_41 : decode cX11_moved 41 = .ok (.bipush 30, 2) := by decide +kernel
theorem dX11_moved_43 : decode cX11_moved 43 = .ok (.iload_n 3, 1) := by decide +kernel
theorem dX11_moved_44 : decode cX11_moved 44 = .ok (.imul, 1) := by decide +kernel
theorem dX11_moved_45 : decode cX11_moved 45 = .ok (.aload_n 0, 1) := by decide +kernel
theorem dX11_moved_46 : decode cX11_moved 46 = .ok (.getfield 79, 3) := by decide +kernel
theorem dX11_moved_49 : decode cX11_moved 49 = .ok (.iconst 1, 1) := by decide +kernel
theorem dX11_moved_50 : decode cX11_moved 50 = .ok (.isub, 1) := by decide +kernel
theorem dX11_moved_51 : decode cX11_moved 51 = .ok (.iload_n 1, 1) := by decide +kernel
theorem dX11_moved_52 : decode cX11_moved 52 = .ok (.imul, 1) := by decide +kernel
theorem dX11_moved_53 : decode cX11_moved 53 = .ok (.iadd, 1) := by decide +kernel
theorem dX11_moved_54 : decode cX11_moved 54 = .ok (.iload_n 2, 1) := by decide +kernel
theorem dX11_moved_55 : decode cX11_moved 55 = .ok (.iload_n 1, 1) := by decide +kernel
theorem dX11_moved_56 : decode cX11_moved 56 = .ok (.if_icmp .le 9, 3) := by decide +kernel
theorem dX11_moved_59 : decode cX11_moved 59 = .ok (.iload_n 2, 1) := by decide +kernel
theorem dX11_moved_60 : decode cX11_moved 60 = .ok (.iconst 1, 1) := by decide +kernel
theorem dX11_moved_61 : decode cX11_moved 61 = .ok (.isub, 1) := by decide +kernel
theorem dX11_moved_62 : decode cX11_moved 62 = .ok (.goto 4, 3) := by decide +kernel
theorem dX11_moved_65 : decode cX11_moved 65 = .ok (.iload_n 2, 1) := by decide +kernel
theorem dX11_moved_66 : decode cX11_moved 66 = .ok (.iadd, 1) := by decide +kernel
theorem dX11_moved_67 : decode cX11_moved 67 = .ok (.iaload, 1) := by decide +kernel
theorem dX11_moved_68 : decode cX11_moved 68 = .ok (.ireturn, 1) := by decide +kernel
theorem dX11_outside_0 : decode cX11_outside 0 = .ok (.aload_n 0, 1) := by decide +kernel
theorem dX11_outside_1 : decode cX11_outside 1 = .ok (.iload_n 1, 1) := by decide +kernel
theorem dX11_outside_2 : decode cX11_outside 2 = .ok (.iload_n 2, 1) := by decide +kernel
theorem dX11_outside_3 : decode cX11_outside 3 = .ok (.invokevirtual 108, 3) := by decide +kernel
theorem dX11_outside_6 : decode cX11_outside 6 = .ok (.ifCond .eq 6, 3) := by decide +kernel
theorem dX11_outside_9 : decode cX11_outside 9 = .ok (.ldc 112, 2) := by decide +kernel
theorem dX11_outside_11 : decode cX11_outside 11 = .ok (.ireturn, 1) := by decide +kernel
theorem dX11_outside_12 : decode cX11_outside 12 = .ok (.aload_n 0, 1) := by decide +kernel
theorem dX11_outside_13 : decode cX11_outside 13 = .ok (.invokevirtual 258, 3) := by decide +kernel
theorem dX11_outside_16 : decode cX11_outside 16 = .ok (.istore 4, 2) := by decide +kernel
theorem dX11_outside_18 : decode cX11_outside 18 = .ok (.iload 4, 2) := by decide +kernel
theorem dX11_outside_20 : decode cX11_outside 20 = .ok (.ifCond .ge 8, 3) := by decide +kernel
theorem dX11_outside_23 : decode cX11_outside 23 = .ok (.iload 4, 2) := by decide +kernel
theorem dX11_outside_25 : decode cX11_outside 25 = .ok (.goto 39, 3) := by decide +kernel
theorem dX11_outside_28 : decode cX11_outside 28 = .ok (.aload_n 0, 1) := by decide +kernel
theorem dX11_outside_29 : decode cX11_outside 29 = .ok (.getfield 69, 3) := by decide +kernel
theorem dX11_outside_32 : decode cX11_outside 32 = .ok (.bipush 30, 2) := by decide +kernel
theorem dX11_outside_34 : decode cX11_outside 34 = .ok (.iload_n 2, 1) := by decide +kernel
theorem dX11_outside_35 : decode cX11_outside 35 = .ok (.imul, 1) := by decide +kernel
theorem dX11_outside_36 : decode cX11_outside 36 = .ok (.aload_n 0, 1) := by decide +kernel
theorem dX11_outside_37 : decode cX11_outside 37 = .ok (.getfield 79, 3) := by decide +kernel
theorem dX11_outside_40 : decode cX11_outside 40 = .ok (.aload_n 0, 1) := by decide +kernel
theorem dX11_outside_41 : decode cX11_outside 41 = .ok (.getfield 79, 3) := by decide +kernel
theorem dX11_outside_44 : decode cX11_outside 44 = .ok (.iconst 1, 1) := by decide +kernel
theorem dX11_outside_45 : decode cX11_outside 45 = .ok (.isub, 1) := by decide +kernel
theorem dX11_outside_46 : decode cX11_outside 46 = .ok (.imul, 1) := by decide +kernel
theorem dX11_outside_47 : decode cX11_outside 47 = .ok (.iadd, 1) := by decide +kernel
theorem dX11_outside_48 : decode cX11_outside 48 = .ok (.iload_n 3, 1) := by decide +kernel
theorem dX11_outside_49 : decode cX11_outside 49 = .ok (.ifCond .eq 10, 3) := by decide +kernel
theorem dX11_outside_52 : decode cX11_outside 52 = .ok (.aload_n 0, 1) := by decide +kernel
theorem dX11_outside_53 : decode cX11_outside 53 = .ok (.getfield 79, 3) := by decide +kernel
theorem dX11_outside_56 : decode cX11_outside 56 = .ok (.goto 4, 3) := by decide +kernel
theorem dX11_outside_59 : decode cX11_outside 59 = .ok (.iconst 0, 1) := by decide +kernel
theorem dX11_outside_60 : decode cX11_outside 60 = .ok (.iadd, 1) := by decide +kernel
theorem dX11_outside_61 : decode cX11_outside 61 = .ok (.iload_n 1, 1) := by decide +kernel
theorem dX11_outside_62 : decode cX11_outside 62 = .ok (.iadd, 1) := by decide +kernel
theorem dX11_outside_63 : decode cX11_outside 63 = .ok (.iaload, 1) := by decide +kernel
theorem dX11_outside_64 : decode cX11_outside 64 = .ok (.ireturn, 1) := by decide +kernel
theorem dX11_repairedStock_0 : decode cX11_repairedStock 0 = .ok (.aload_n 0, 1) := by decide +kernel
theorem dX11_repairedStock_1 : decode cX11_repairedStock 1 = .ok (.iload_n 1, 1) := by decide +kernel
theorem dX11_repairedStock_2 : decode cX11_repairedStock 2 = .ok (.iload_n 2, 1) := by decide +kernel
theorem dX11_repairedStock_3 : decode cX11_repairedStock 3 = .ok (.invokevirtual 108, 3) := by decide +kernel
theorem dX11_repairedStock_6 : decode cX11_repairedStock 6 = .ok (.ifCond .eq 6, 3) := by decide +kernel
theorem dX11_repairedStock_9 : decode cX11_repairedStock 9 = .ok (.ldc 112, 2) := by decide +kernel
theorem dX11_repairedStock_11 : decode cX11_repairedStock 11 = .ok (.ireturn, 1) := by decide +kernel
theorem dX11_repairedStock_12 : decode cX11_repairedStock 12 = .ok (.aload_n 0, 1) := by decide +kernel
theorem dX11_repairedStock_13 : decode cX11_repairedStock 13 = .ok (.invokevirtual 258, 3) := by decide +kernel
theorem dX11_repairedStock_16 : decode cX11_repairedStock 16 = .ok (.istore_n 3, 1) := by decide +kernel
theorem dX11_repairedStock_17 : decode cX11_repairedStock 17 = .ok (.iload_n 3, 1) := by decide +kernel
theorem dX11_repairedStock_18 : decode cX11_repairedStock 18 = .ok (.ifCond .ge 7, 3) := by decide +kernel
theorem dX11_repairedStock_21 : decode cX11_repairedStock 21 = .ok (.iload_n 3, 1) := by decide +kernel
theorem dX11_repairedStock_22 : decode cX11_repairedStock 22 = .ok (.goto 13, 3) := by decide +kernel
theorem dX11_repairedStock_25 : decode cX11_repairedStock 25 = .ok (.aload_n 0, 1) := by decide +kernel
theorem dX11_repairedStock_26 : decode cX11_repairedStock 26 = .ok (.getfield 72, 3) := by decide +kernel
theorem dX11_repairedStock_29 : decode cX11_repairedStock 29 = .ok (.iconst 2, 1) := by decide +kernel
theorem dX11_repairedStock_30 : decode cX11_repairedStock 30 = .ok (.iload_n 1, 1) := by decide +kernel
theorem dX11_repairedStock_31 : decode cX11_repairedStock 31 = .ok (.imul, 1) := by decide +kernel
theorem dX11_repairedStock_32 : decode cX11_repairedStock 32 = .ok (.iload_n 2, 1) := by decide +kernel
theorem dX11_repairedStock_33 : decode cX11_repairedStock 33 = .ok (.iadd, 1) := by decide +kernel
theorem dX11_repairedStock_34 : decode cX11_repairedStock 34 = .ok (.iaload, 1) := by decide +kernel
theorem dX11_repairedStock_35 : decode cX11_repairedStock 35 = .ok (.ireturn, 1) := by decide +kernel
theorem dX11_happensAgain_0 : decode cX11_happensAgain 0 = .ok (.aload_n 0, 1) := by decide +kernel
theorem dX11_happensAgain_1 : decode cX11_happensAgain 1 = .ok (.getfield 13, 3) := by decide +kernel
theorem dX11_happensAgain_4 : decode cX11_happensAgain 4 = .ok (.iload_n 1, 1) := by decide +kernel
theorem dX11_happensAgain_5 : decode cX11_happensAgain 5 = .ok (.iaload, 1) := by decide +kernel
theorem dX11_happensAgain_6 : decode cX11_happensAgain 6 = .ok (.istore_n 2, 1) := by decide +kernel
theorem dX11_happensAgain_7 : decode cX11_happensAgain 7 = .ok (.aload_n 0, 1) := by decide +kernel
theorem dX11_happensAgain_8 : decode cX11_happensAgain 8 = .ok (.getfield 13, 3) := by decide +kernel
theorem dX11_happensAgain_11 : decode cX11_happensAgain 11 = .ok (.iload_n 1, 1) := by decide +kernel
theorem dX11_happensAgain_12 : decode cX11_happensAgain 12 = .ok (.iconst 1, 1) := by decide +kernel
theorem dX11_happensAgain_13 : decode cX11_happensAgain 13 = .ok (.iadd, 1) := by decide +kernel
theorem dX11_happensAgain_14 : decode cX11_happensAgain 14 = .ok (.iaload, 1) := by decide +kernel
theorem dX11_happensAgain_15 : decode cX11_happensAgain 15 = .ok (.istore_n 3, 1) := by decide +kernel
theorem dX11_happensAgain_16 : decode cX11_happensAgain 16 = .ok (.aload_n 0, 1) := by decide +kernel
theorem dX11_happensAgain_17 : decode cX11_happensAgain 17 = .ok (.getfield 13, 3) := by decide +kernel
theorem dX11_happensAgain_20 : decode cX11_happensAgain 20 = .ok (.iload_n 1, 1) := by decide +kernel
theorem dX11_happensAgain_21 : decode cX11_happensAgain 21 = .ok (.iconst 4, 1) := by decide +kernel
theorem dX11_happensAgain_22 : decode cX11_happensAgain 22 = .ok (.iadd, 1) := by decide +kernel
theorem dX11_happensAgain_23 : decode cX11_happensAgain 23 = .ok (.iaload, 1) := by decide +kernel
theorem dX11_happensAgain_24 : decode cX11_happensAgain 24 = .ok (.istore 4, 2) := by decide +kernel
theorem dX11_happensAgain_26 : decode cX11_happensAgain 26 = .ok (.iload_n 3, 1) := by decide +kernel
theorem dX11_happensAgain_27 : decode cX11_happensAgain 27 = .ok (.iconst 2, 1) := by decide +kernel
theorem dX11_happensAgain_28 : decode cX11_happensAgain 28 = .ok (.if_icmp .ne 14, 3) := by decide +kernel
theorem dX11_happensAgain_31 : decode cX11_happensAgain 31 = .ok (.aload_n 0, 1) := by decide +kernel
theorem dX11_happensAgain_32 : decode cX11_happensAgain 32 = .ok (.iload 4, 2) := by decide +kernel
theorem dX11_happensAgain_34 : decode cX11_happensAgain 34 = .ok (.iload_n 2, 1) := by decide +kernel
theorem dX11_happensAgain_35 : decode cX11_happensAgain 35 = .ok (.iconst 0, 1) := by decide +kernel
theorem dX11_happensAgain_36 : decode cX11_happensAgain 36 = .ok (.invokevirtual 118, 3) := by decide +kernel
theorem dX11_happensAgain_39 : decode cX11_happensAgain 39 = .ok (.goto 4, 3) := by decide +kernel
theorem dX11_happensAgain_42 : decode cX11_happensAgain 42 = .ok (.iconst 0, 1) := by decide +kernel
theorem dX11_happensAgain_43 : decode cX11_happensAgain 43 = .ok (.istore 5, 2) := by decide +kernel
theorem dX11_happensAgain_45 : decode cX11_happensAgain 45 = .ok (.iload_n 3, 1) := by decide +kernel
theorem dX11_happensAgain_46 : decode cX11_happensAgain 46 = .ok (.ifCond .ne 27, 3) := by decide +kernel
theorem dX11_happensAgain_49 : decode cX11_happensAgain 49 = .ok (.aload_n 0, 1) := by decide +kernel
theorem dX11_happensAgain_50 : decode cX11_happensAgain 50 = .ok (.iload_n 2, 1) := by decide +kernel
theorem dX11_happensAgain_51 : decode cX11_happensAgain 51 = .ok (.aload_n 0, 1) := by decide +kernel
theorem dX11_happensAgain_52 : decode cX11_happensAgain 52 = .ok (.getfield 13, 3) := by decide +kernel
theorem dX11_happensAgain_55 : decode cX11_happensAgain 55 = .ok (.iload_n 1, 1) := by decide +kernel
theorem dX11_happensAgain_56 : decode cX11_happensAgain 56 = .ok (.iconst 2, 1) := by decide +kernel
theorem dX11_happensAgain_57 : decode cX11_happensAgain 57 = .ok (.iadd, 1) := by decide +kernel
theorem dX11_happensAgain_58 : decode cX11_happensAgain 58 = .ok (.iaload, 1) := by decide +kernel
theorem dX11_happensAgain_59 : decode cX11_happensAgain 59 = .ok (.aload_n 0, 1) := by decide +kernel
theorem dX11_happensAgain_60 : decode cX11_happensAgain 60 = .ok (.getfield 13, 3) := by decide +kernel
theorem dX11_happensAgain_63 : decode cX11_happensAgain 63 = .ok (.iload_n 1, 1) := by decide +kernel
theorem dX11_happensAgain_64 : decode cX11_happensAgain 64 = .ok (.iconst 3, 1) := by decide +kernel
theorem dX11_happensAgain_65 : decode cX11_happensAgain 65 = .ok (.iadd, 1) := by decide +kernel
theorem dX11_happensAgain_66 : decode cX11_happensAgain 66 = .ok (.iaload, 1) := by decide +kernel
theorem dX11_happensAgain_67 : decode cX11_happensAgain 67 = .ok (.invokevirtual 132, 3) := by decide +kernel
theorem dX11_happensAgain_70 : decode cX11_happensAgain 70 = .ok (.goto 60, 3) := by decide +kernel
theorem dX11_happensAgain_73 : decode cX11_happensAgain 73 = .ok (.iload_n 3, 1) := by decide +kernel
theorem dX11_happensAgain_74 : decode cX11_happensAgain 74 = .ok (.iconst 1, 1) := by decide +kernel
theorem dX11_happensAgain_75 : decode cX11_happensAgain 75 = .ok (.if_icmp .ne 29, 3) := by decide +kernel
theorem dX11_happensAgain_78 : decode cX11_happensAgain 78 = .ok (.aload_n 0, 1) := by decide +kernel
theorem dX11_happensAgain_79 : decode cX11_happensAgain 79 = .ok (.iload_n 2, 1) := by decide +kernel
theorem dX11_happensAgain_80 : decode cX11_happensAgain 80 = .ok (.iload 4, 2) := by decide +kernel
theorem dX11_happensAgain_82 : decode cX11_happensAgain 82 = .ok (.aload_n 0, 1) := by decide +kernel
theorem dX11_happensAgain_83 : decode cX11_happensAgain 83 = .ok (.getfield 13, 3) := by decide +kernel
theorem dX11_happensAgain_86 : decode cX11_happensAgain 86 = .ok (.iload_n 1, 1) := by decide +kernel
theorem dX11_happensAgain_87 : decode cX11_happensAgain 87 = .ok (.iconst 2, 1) := by decide +kernel
theorem dX11_happensAgain_88 : decode cX11_happensAgain 88 = .ok (.iadd, 1) := by decide +kernel
theorem dX11_happensAgain_89 : decode cX11_happensAgain 89 = .ok (.iaload, 1) := by decide +kernel
theorem dX11_happensAgain_90 : decode cX11_happensAgain 90 = .ok (.aload_n 0, 1) := by decide +kernel
theorem dX11_happensAgain_91 : decode cX11_happensAgain 91 = .ok (.getfield 13, 3) := by decide +kernel
theorem dX11_happensAgain_94 : decode cX11_happensAgain 94 = .ok (.iload_n 1, 1) := by decide +kernel
theorem dX11_happensAgain_95 : decode cX11_happensAgain 95 = .ok (.iconst 3, 1) := by decide +kernel
theorem dX11_happensAgain_96 : decode cX11_happensAgain 96 = .ok (.iadd, 1) := by decide +kernel
theorem dX11_happensAgain_97 : decode cX11_happensAgain 97 = .ok (.iaload, 1) := by decide +kernel
theorem dX11_happensAgain_98 : decode cX11_happensAgain 98 = .ok (.invokevirtual 145, 3) := by decide +kernel
theorem dX11_happensAgain_101 : decode cX11_happensAgain 101 = .ok (.goto 29, 3) := by decide +kernel
theorem dX11_happensAgain_104 : decode cX11_happensAgain 104 = .ok (.iload 5, 2) := by decide +kernel
theorem dX11_happensAgain_106 : decode cX11_happensAgain 106 = .ok (.aload_n 0, 1) := by decide +kernel
theorem dX11_happensAgain_107 : decode cX11_happensAgain 107 = .ok (.getfield 7, 3) := by decide +kernel
theorem dX11_happensAgain_110 : decode cX11_happensAgain 110 = .ok (.bipush 37, 2) := by decide +kernel
theorem dX11_happensAgain_112 : decode cX11_happensAgain 112 = .ok (.iaload, 1) := by decide +kernel
theorem dX11_happensAgain_113 : decode cX11_happensAgain 113 = .ok (.if_icmp .ne 8, 3) := by decide +kernel
theorem dX11_happensAgain_116 : decode cX11_happensAgain 116 = .ok (.ldc 127, 2) := by decide +kernel
theorem dX11_happensAgain_118 : decode cX11_happensAgain 118 = .ok (.goto 12, 3) := by decide +kernel
theorem dX11_happensAgain_121 : decode cX11_happensAgain 121 = .ok (.aload_n 0, 1) := by decide +kernel
theorem dX11_happensAgain_122 : decode cX11_happensAgain 122 = .ok (.iload_n 2, 1) := by decide +kernel
theorem dX11_happensAgain_123 : decode cX11_happensAgain 123 = .ok (.iload 4, 2) := by decide +kernel
theorem dX11_happensAgain_125 : decode cX11_happensAgain 125 = .ok (.iload 5, 2) := by decide +kernel
theorem dX11_happensAgain_127 : decode cX11_happensAgain 127 = .ok (.invokevirtual 160, 3) := by decide +kernel
theorem dX11_happensAgain_130 : decode cX11_happensAgain 130 = .ok (.istore 6, 2) := by decide +kernel
theorem dX11_happensAgain_132 : decode cX11_happensAgain 132 = .ok (.iload 6, 2) := by decide +kernel
theorem dX11_happensAgain_134 : decode cX11_happensAgain 134 = .ok (.ifCond .lt 7, 3) := by decide +kernel
theorem dX11_happensAgain_137 : decode cX11_happensAgain 137 = .ok (.iconst 1, 1) := by decide +kernel
theorem dX11_happensAgain_138 : decode cX11_happensAgain 138 = .ok (.goto 4, 3) := by decide +kernel
theorem dX11_happensAgain_141 : decode cX11_happensAgain 141 = .ok (.iconst 0, 1) := by decide +kernel
theorem dX11_happensAgain_142 : decode cX11_happensAgain 142 = .ok (.ireturn, 1) := by decide +kernel
theorem dX11_takeBack_0 : decode cX11_takeBack 0 = .ok (.aload_n 0, 1) := by decide +kernel
theorem dX11_takeBack_1 : decode cX11_takeBack 1 = .ok (.getfield 7, 3) := by decide +kernel
theorem dX11_takeBack_4 : decode cX11_takeBack 4 = .ok (.bipush 36, 2) := by decide +kernel
theorem dX11_takeBack_6 : decode cX11_takeBack 6 = .ok (.dup2, 1) := by decide +kernel
theorem dX11_takeBack_7 : decode cX11_takeBack 7 = .ok (.iaload, 1) := by decide +kernel
theorem dX11_takeBack_8 : decode cX11_takeBack 8 = .ok (.iconst 1, 1) := by decide +kernel
theorem dX11_takeBack_9 : decode cX11_takeBack 9 = .ok (.isub, 1) := by decide +kernel
theorem dX11_takeBack_10 : decode cX11_takeBack 10 = .ok (.iastore, 1) := by decide +kernel
theorem dX11_takeBack_11 : decode cX11_takeBack 11 = .ok (.aload_n 0, 1) := by decide +kernel
theorem dX11_takeBack_12 : decode cX11_takeBack 12 = .ok (.getfield 7, 3) := by decide +kernel
theorem dX11_takeBack_15 : decode cX11_takeBack 15 = .ok (.bipush 36, 2) := by decide +kernel
theorem dX11_takeBack_17 : decode cX11_takeBack 17 = .ok (.iaload, 1) := by decide +kernel
theorem dX11_takeBack_18 : decode cX11_takeBack 18 = .ok (.istore_n 1, 1) := by decide +kernel
theorem dX11_takeBack_19 : decode cX11_takeBack 19 = .ok (.iconst 0, 1) := by decide +kernel
theorem dX11_takeBack_20 : decode cX11_takeBack 20 = .ok (.iconst 2, 1) := by decide +kernel
theorem dX11_takeBack_21 : decode cX11_takeBack 21 = .ok (.aload_n 0, 1) := by decide +kernel
theorem dX11_takeBack_22 : decode cX11_takeBack 22 = .ok (.iload_n 1, 1) := by decide +kernel
theorem dX11_takeBack_23 : decode cX11_takeBack 23 = .ok (.iconst 0, 1) := by decide +kernel
theorem dX11_takeBack_24 : decode cX11_takeBack 24 = .ok (.invokevirtual 122, 3) := by decide +kernel
theorem dX11_takeBack_27 : decode cX11_takeBack 27 = .ok (.imul, 1) := by decide +kernel
theorem dX11_takeBack_28 : decode cX11_takeBack 28 = .ok (.iadd, 1) := by decide +kernel
theorem dX11_takeBack_29 : decode cX11_takeBack 29 = .ok (.aload_n 0, 1) := by decide +kernel
theorem dX11_takeBack_30 : decode cX11_takeBack 30 = .ok (.iload_n 1, 1) := by decide +kernel
theorem dX11_takeBack_31 : decode cX11_takeBack 31 = .ok (.iconst 2, 1) := by decide +kernel
theorem dX11_takeBack_32 : decode cX11_takeBack 32 = .ok (.invokevirtual 122, 3) := by decide +kernel
theorem dX11_takeBack_35 : decode cX11_takeBack 35 = .ok (.iadd, 1) := by decide +kernel
theorem dX11_takeBack_36 : decode cX11_takeBack 36 = .ok (.istore_n 2, 1) := by decide +kernel
theorem dX11_takeBack_37 : decode cX11_takeBack 37 = .ok (.aload_n 0, 1) := by decide +kernel
theorem dX11_takeBack_38 : decode cX11_takeBack 38 = .ok (.getfield 7, 3) := by decide +kernel
theorem dX11_takeBack_41 : decode cX11_takeBack 41 = .ok (.iload_n 2, 1) := by decide +kernel
theorem dX11_takeBack_42 : decode cX11_takeBack 42 = .ok (.dup2, 1) := by decide +kernel
theorem dX11_takeBack_43 : decode cX11_takeBack 43 = .ok (.iaload, 1) := by decide +kernel
theorem dX11_takeBack_44 : decode cX11_takeBack 44 = .ok (.aload_n 0, 1) := by decide +kernel
theorem dX11_takeBack_45 : decode cX11_takeBack 45 = .ok (.iload_n 1, 1) := by decide +kernel
theorem dX11_takeBack_46 : decode cX11_takeBack 46 = .ok (.iconst 1, 1) := by decide +kernel
theorem dX11_takeBack_47 : decode cX11_takeBack 47 = .ok (.invokevirtual 122, 3) := by decide +kernel
theorem dX11_takeBack_50 : decode cX11_takeBack 50 = .ok (.iconst 1, 1) := by decide +kernel
theorem dX11_takeBack_51 : decode cX11_takeBack 51 = .ok (.if_icmp .ne 13, 3) := by decide +kernel
theorem dX11_takeBack_54 : decode cX11_takeBack 54 = .ok (.aload_n 0, 1) := by decide +kernel
theorem dX11_takeBack_55 : decode cX11_takeBack 55 = .ok (.iload_n 1, 1) := by decide +kernel
theorem dX11_takeBack_56 : decode cX11_takeBack 56 = .ok (.iconst 3, 1) := by decide +kernel
theorem dX11_takeBack_57 : decode cX11_takeBack 57 = .ok (.invokevirtual 122, 3) := by decide +kernel
theorem dX11_takeBack_60 : decode cX11_takeBack 60 = .ok (.ineg, 1) := by decide +kernel
theorem dX11_takeBack_61 : decode cX11_takeBack 61 = .ok (.goto 9, 3) := by decide +kernel
theorem dX11_takeBack_64 : decode cX11_takeBack 64 = .ok (.aload_n 0, 1) := by decide +kernel
theorem dX11_takeBack_65 : decode cX11_takeBack 65 = .ok (.iload_n 1, 1) := by decide +kernel
theorem dX11_takeBack_66 : decode cX11_takeBack 66 = .ok (.iconst 3, 1) := by decide +kernel
theorem dX11_takeBack_67 : decode cX11_takeBack 67 = .ok (.invokevirtual 122, 3) := by decide +kernel
theorem dX11_takeBack_70 : decode cX11_takeBack 70 = .ok (.isub, 1) := by decide +kernel
theorem dX11_takeBack_71 : decode cX11_takeBack 71 = .ok (.iastore, 1) := by decide +kernel
theorem dX11_takeBack_72 : decode cX11_takeBack 72 = .ok (.aload_n 0, 1) := by decide +kernel
theorem dX11_takeBack_73 : decode cX11_takeBack 73 = .ok (.getfield 7, 3) := by decide +kernel
theorem dX11_takeBack_76 : decode cX11_takeBack 76 = .ok (.bipush 25, 2) := by decide +kernel
theorem dX11_takeBack_78 : decode cX11_takeBack 78 = .ok (.aload_n 0, 1) := by decide +kernel
theorem dX11_takeBack_79 : decode cX11_takeBack 79 = .ok (.iload_n 1, 1) := by decide +kernel
theorem dX11_takeBack_80 : decode cX11_takeBack 80 = .ok (.iconst 0, 1) := by decide +kernel
theorem dX11_takeBack_81 : decode cX11_takeBack 81 = .ok (.invokevirtual 122, 3) := by decide +kernel
theorem dX11_takeBack_84 : decode cX11_takeBack 84 = .ok (.iadd, 1) := by decide +kernel
theorem dX11_takeBack_85 : decode cX11_takeBack 85 = .ok (.dup2, 1) := by decide +kernel
theorem dX11_takeBack_86 : decode cX11_takeBack 86 = .ok (.iaload, 1) := by decide +kernel
theorem dX11_takeBack_87 : decode cX11_takeBack 87 = .ok (.iconst 1, 1) := by decide +kernel
theorem dX11_takeBack_88 : decode cX11_takeBack 88 = .ok (.isub, 1) := by decide +kernel
theorem dX11_takeBack_89 : decode cX11_takeBack 89 = .ok (.iastore, 1) := by decide +kernel
theorem dX11_takeBack_90 : decode cX11_takeBack 90 = .ok (.aload_n 0, 1) := by decide +kernel
theorem dX11_takeBack_91 : decode cX11_takeBack 91 = .ok (.getfield 7, 3) := by decide +kernel
theorem dX11_takeBack_94 : decode cX11_takeBack 94 = .ok (.bipush 37, 2) := by decide +kernel
theorem dX11_takeBack_96 : decode cX11_takeBack 96 = .ok (.dup2, 1) := by decide +kernel
theorem dX11_takeBack_97 : decode cX11_takeBack 97 = .ok (.iaload, 1) := by decide +kernel
theorem dX11_takeBack_98 : decode cX11_takeBack 98 = .ok (.aload_n 0, 1) := by decide +kernel
theorem dX11_takeBack_99 : decode cX11_takeBack 99 = .ok (.iload_n 1, 1) := by decide +kernel
theorem dX11_takeBack_100 : decode cX11_takeBack 100 = .ok (.iconst 1, 1) := by decide +kernel
theorem dX11_takeBack_101 : decode cX11_takeBack 101 = .ok (.invokevirtual 122, 3) := by decide +kernel
theorem dX11_takeBack_104 : decode cX11_takeBack 104 = .ok (.iconst 1, 1) := by decide +kernel
theorem dX11_takeBack_105 : decode cX11_takeBack 105 = .ok (.if_icmp .ne 7, 3) := by decide +kernel
theorem dX11_takeBack_108 : decode cX11_takeBack 108 = .ok (.iconst 1, 1) := by decide +kernel
theorem dX11_takeBack_109 : decode cX11_takeBack 109 = .ok (.goto 4, 3) := by decide +kernel
theorem dX11_takeBack_112 : decode cX11_takeBack 112 = .ok (.iconst 0, 1) := by decide +kernel
theorem dX11_takeBack_113 : decode cX11_takeBack 113 = .ok (.isub, 1) := by decide +kernel
theorem dX11_takeBack_114 : decode cX11_takeBack 114 = .ok (.iastore, 1) := by decide +kernel
theorem dX11_takeBack_115 : decode cX11_takeBack 115 = .ok (.aload_n 0, 1) := by decide +kernel
theorem dX11_takeBack_116 : decode cX11_takeBack 116 = .ok (.iload_n 1, 1) := by decide +kernel
theorem dX11_takeBack_117 : decode cX11_takeBack 117 = .ok (.iconst 1, 1) := by decide +kernel
theorem dX11_takeBack_118 : decode cX11_takeBack 118 = .ok (.invokevirtual 122, 3) := by decide +kernel
theorem dX11_takeBack_121 : decode cX11_takeBack 121 = .ok (.iconst 2, 1) := by decide +kernel
theorem dX11_takeBack_122 : decode cX11_takeBack 122 = .ok (.if_icmp .ne 24, 3) := by decide +kernel
theorem dX11_takeBack_125 : decode cX11_takeBack 125 = .ok (.aload_n 0, 1) := by decide +kernel
theorem dX11_takeBack_126 : decode cX11_takeBack 126 = .ok (.getfield 7, 3) := by decide +kernel
theorem dX11_takeBack_129 : decode cX11_takeBack 129 = .ok (.sipush 1264, 3) := by decide +kernel
theorem dX11_takeBack_132 : decode cX11_takeBack 132 = .ok (.bipush 6, 2) := by decide +kernel
theorem dX11_takeBack_134 : decode cX11_takeBack 134 = .ok (.aload_n 0, 1) := by decide +kernel
theorem dX11_takeBack_135 : decode cX11_takeBack 135 = .ok (.iload_n 1, 1) := by decide +kernel
theorem dX11_takeBack_136 : decode cX11_takeBack 136 = .ok (.iconst 5, 1) := by decide +kernel
theorem dX11_takeBack_137 : decode cX11_takeBack 137 = .ok (.invokevirtual 122, 3) := by decide +kernel
theorem dX11_takeBack_140 : decode cX11_takeBack 140 = .ok (.imul, 1) := by decide +kernel
theorem dX11_takeBack_141 : decode cX11_takeBack 141 = .ok (.iadd, 1) := by decide +kernel
theorem dX11_takeBack_142 : decode cX11_takeBack 142 = .ok (.iconst 5, 1) := by decide +kernel
theorem dX11_takeBack_143 : decode cX11_takeBack 143 = .ok (.iadd, 1) := by decide +kernel
theorem dX11_takeBack_144 : decode cX11_takeBack 144 = .ok (.iconst (-1), 1) := by decide +kernel
theorem dX11_takeBack_145 : decode cX11_takeBack 145 = .ok (.iastore, 1) := by decide +kernel
theorem dX11_takeBack_146 : decode cX11_takeBack 146 = .ok (.return_, 1) := by decide +kernel
theorem dX11_apply_0 : decode cX11_apply 0 = .ok (.aload_n 0, 1) := by decide +kernel
theorem dX11_apply_1 : decode cX11_apply 1 = .ok (.invokevirtual 258, 3) := by decide +kernel
theorem dX11_apply_4 : decode cX11_apply 4 = .ok (.istore_n 2, 1) := by decide +kernel
theorem dX11_apply_5 : decode cX11_apply 5 = .ok (.iload_n 2, 1) := by decide +kernel
theorem dX11_apply_6 : decode cX11_apply 6 = .ok (.ifCond .ge 5, 3) := by decide +kernel
theorem dX11_apply_9 : decode cX11_apply 9 = .ok (.iload_n 2, 1) := by decide +kernel
theorem dX11_apply_10 : decode cX11_apply 10 = .ok (.ireturn, 1) := by decide +kernel
theorem dX11_apply_11 : decode cX11_apply 11 = .ok (.iconst 0, 1) := by decide +kernel
theorem dX11_apply_12 : decode cX11_apply 12 = .ok (.istore_n 3, 1) := by decide +kernel
theorem dX11_apply_13 : decode cX11_apply 13 = .ok (.iload_n 3, 1) := by decide +kernel
theorem dX11_apply_14 : decode cX11_apply 14 = .ok (.sipush 5104, 3) := by decide +kernel
theorem dX11_apply_17 : decode cX11_apply 17 = .ok (.if_icmp .ge 21, 3) := by decide +kernel
theorem dX11_apply_20 : decode cX11_apply 20 = .ok (.aload_n 0, 1) := by decide +kernel
theorem dX11_apply_21 : decode cX11_apply 21 = .ok (.getfield 13, 3) := by decide +kernel
theorem dX11_apply_24 : decode cX11_apply 24 = .ok (.iload_n 3, 1) := by decide +kernel
theorem dX11_apply_25 : decode cX11_apply 25 = .ok (.aload_n 0, 1) := by decide +kernel
theorem dX11_apply_26 : decode cX11_apply 26 = .ok (.getfield 7, 3) := by decide +kernel
theorem dX11_apply_29 : decode cX11_apply 29 = .ok (.iload_n 3, 1) := by decide +kernel
theorem dX11_apply_30 : decode cX11_apply 30 = .ok (.iaload, 1) := by decide +kernel
theorem dX11_apply_31 : decode cX11_apply 31 = .ok (.iastore, 1) := by decide +kernel
theorem dX11_apply_32 : decode cX11_apply 32 = .ok (.iinc 3 1, 3) := by decide +kernel
theorem dX11_apply_35 : decode cX11_apply 35 = .ok (.goto (-22), 3) := by decide +kernel
theorem dX11_apply_38 : decode cX11_apply 38 = .ok (.aload_n 0, 1) := by decide +kernel
theorem dX11_apply_39 : decode cX11_apply 39 = .ok (.iconst 1, 1) := by decide +kernel
theorem dX11_apply_40 : decode cX11_apply 40 = .ok (.putfield 86, 3) := by decide +kernel
theorem dX11_apply_43 : decode cX11_apply 43 = .ok (.iconst 0, 1) := by decide +kernel
theorem dX11_apply_44 : decode cX11_apply 44 = .ok (.istore_n 3, 1) := by decide +kernel
theorem dX11_apply_45 : decode cX11_apply 45 = .ok (.iconst 0, 1) := by decide +kernel
theorem dX11_apply_46 : decode cX11_apply 46 = .ok (.istore 4, 2) := by decide +kernel
theorem dX11_apply_48 : decode cX11_apply 48 = .ok (.iload 4, 2) := by decide +kernel
theorem dX11_apply_50 : decode cX11_apply 50 = .ok (.aload_n 0, 1) := by decide +kernel
theorem dX11_apply_51 : decode cX11_apply 51 = .ok (.getfield 7, 3) := by decide +kernel
theorem dX11_apply_54 : decode cX11_apply 54 = .ok (.bipush 37, 2) := by decide +kernel
theorem dX11_apply_56 : decode cX11_apply 56 = .ok (.iaload, 1) := by decide +kernel
theorem dX11_apply_57 : decode cX11_apply 57 = .ok (.if_icmp .ge 60, 3) := by decide +kernel
theorem dX11_apply_60 : decode cX11_apply 60 = .ok (.aload_n 0, 1) := by decide +kernel
theorem dX11_apply_61 : decode cX11_apply 61 = .ok (.iload 4, 2) := by decide +kernel
theorem dX11_apply_63 : decode cX11_apply 63 = .ok (.invokevirtual 184, 3) := by decide +kernel
theorem dX11_apply_66 : decode cX11_apply 66 = .ok (.ifCond .eq 45, 3) := by decide +kernel
theorem dX11_apply_69 : decode cX11_apply 69 = .ok (.iconst 0, 1) := by decide +kernel
theorem dX11_apply_70 : decode cX11_apply 70 = .ok (.istore 5, 2) := by decide +kernel
theorem dX11_apply_72 : decode cX11_apply 72 = .ok (.iload 5, 2) := by decide +kernel
theorem dX11_apply_74 : decode cX11_apply 74 = .ok (.iconst 4, 1) := by decide +kernel
theorem dX11_apply_75 : decode cX11_apply 75 = .ok (.if_icmp .ge 33, 3) := by decide +kernel
theorem dX11_apply_78 : decode cX11_apply 78 = .ok (.aload_n 0, 1) := by decide +kernel
theorem dX11_apply_79 : decode cX11_apply 79 = .ok (.getfield 7, 3) := by decide +kernel
theorem dX11_apply_82 : decode cX11_apply 82 = .ok (.sipush 1264, 3) := by decide +kernel
theorem dX11_apply_85 : decode cX11_apply 85 = .ok (.bipush 6, 2) := by decide +kernel
theorem dX11_apply_87 : decode cX11_apply 87 = .ok (.iload_n 3, 1) := by decide +kernel
theorem dX11_apply_88 : decode cX11_apply 88 = .ok (.imul, 1) := by decide +kernel
theorem dX11_apply_89 : decode cX11_apply 89 = .ok (.iadd, 1) := by decide +kernel
theorem dX11_apply_90 : decode cX11_apply 90 = .ok (.iload 5, 2) := by decide +kernel
theorem dX11_apply_92 : decode cX11_apply 92 = .ok (.iadd, 1) := by decide +kernel
theorem dX11_apply_93 : decode cX11_apply 93 = .ok (.aload_n 0, 1) := by decide +kernel
theorem dX11_apply_94 : decode cX11_apply 94 = .ok (.iload 4, 2) := by decide +kernel
theorem dX11_apply_96 : decode cX11_apply 96 = .ok (.iload 5, 2) := by decide +kernel
theorem dX11_apply_98 : decode cX11_apply 98 = .ok (.invokevirtual 114, 3) := by decide +kernel
theorem dX11_apply_101 : decode cX11_apply 101 = .ok (.iastore, 1) := by decide +kernel
theorem dX11_apply_102 : decode cX11_apply 102 = .ok (.iinc 5 1, 3) := by decide +kernel
theorem dX11_apply_105 : decode cX11_apply 105 = .ok (.goto (-33), 3) := by decide +kernel
theorem dX11_apply_108 : decode cX11_apply 108 = .ok (.iinc 3 1, 3) := by decide +kernel
theorem dX11_apply_111 : decode cX11_apply 111 = .ok (.iinc 4 1, 3) := by decide +kernel
theorem dX11_apply_114 : decode cX11_apply 114 = .ok (.goto (-66), 3) := by decide +kernel
theorem dX11_apply_117 : decode cX11_apply 117 = .ok (.iconst 0, 1) := by decide +kernel
theorem dX11_apply_118 : decode cX11_apply 118 = .ok (.istore 4, 2) := by decide +kernel
theorem dX11_apply_120 : decode cX11_apply 120 = .ok (.iload 4, 2) := by decide +kernel
theorem dX11_apply_122 : decode cX11_apply 122 = .ok (.iload_n 3, 1) := by decide +kernel
theorem dX11_apply_123 : decode cX11_apply 123 = .ok (.if_icmp .ge 43, 3) := by decide +kernel
theorem dX11_apply_126 : decode cX11_apply 126 = .ok (.aload_n 0, 1) := by decide +kernel
theorem dX11_apply_127 : decode cX11_apply 127 = .ok (.getfield 7, 3) := by decide +kernel
theorem dX11_apply_130 : decode cX11_apply 130 = .ok (.sipush 1264, 3) := by decide +kernel
theorem dX11_apply_133 : decode cX11_apply 133 = .ok (.bipush 6, 2) := by decide +kernel
theorem dX11_apply_135 : decode cX11_apply 135 = .ok (.iload 4, 2) := by decide +kernel
theorem dX11_apply_137 : decode cX11_apply 137 = .ok (.imul, 1) := by decide +kernel
theorem dX11_apply_138 : decode cX11_apply 138 = .ok (.iadd, 1) := by decide +kernel
theorem dX11_apply_139 : decode cX11_apply 139 = .ok (.iconst 4, 1) := by decide +kernel
theorem dX11_apply_140 : decode cX11_apply 140 = .ok (.iadd, 1) := by decide +kernel
theorem dX11_apply_141 : decode cX11_apply 141 = .ok (.iconst (-1), 1) := by decide +kernel
theorem dX11_apply_142 : decode cX11_apply 142 = .ok (.iastore, 1) := by decide +kernel
theorem dX11_apply_143 : decode cX11_apply 143 = .ok (.aload_n 0, 1) := by decide +kernel
theorem dX11_apply_144 : decode cX11_apply 144 = .ok (.getfield 7, 3) := by decide +kernel
theorem dX11_apply_147 : decode cX11_apply 147 = .ok (.sipush 1264, 3) := by decide +kernel
theorem dX11_apply_150 : decode cX11_apply 150 = .ok (.bipush 6, 2) := by decide +kernel
theorem dX11_apply_152 : decode cX11_apply 152 = .ok (.iload 4, 2) := by decide +kernel
theorem dX11_apply_154 : decode cX11_apply 154 = .ok (.imul, 1) := by decide +kernel
theorem dX11_apply_155 : decode cX11_apply 155 = .ok (.iadd, 1) := by decide +kernel
theorem dX11_apply_156 : decode cX11_apply 156 = .ok (.iconst 5, 1) := by decide +kernel
theorem dX11_apply_157 : decode cX11_apply 157 = .ok (.iadd, 1) := by decide +kernel
theorem dX11_apply_158 : decode cX11_apply 158 = .ok (.iconst (-1), 1) := by decide +kernel
theorem dX11_apply_159 : decode cX11_apply 159 = .ok (.iastore, 1) := by decide +kernel
theorem dX11_apply_160 : decode cX11_apply 160 = .ok (.iinc 4 1, 3) := by decide +kernel
theorem dX11_apply_163 : decode cX11_apply 163 = .ok (.goto (-43), 3) := by decide +kernel
theorem dX11_apply_166 : decode cX11_apply 166 = .ok (.aload_n 0, 1) := by decide +kernel
theorem dX11_apply_167 : decode cX11_apply 167 = .ok (.getfield 7, 3) := by decide +kernel
theorem dX11_apply_170 : decode cX11_apply 170 = .ok (.bipush 37, 2) := by decide +kernel
theorem dX11_apply_172 : decode cX11_apply 172 = .ok (.iload_n 3, 1) := by decide +kernel
theorem dX11_apply_173 : decode cX11_apply 173 = .ok (.iastore, 1) := by decide +kernel
theorem dX11_apply_174 : decode cX11_apply 174 = .ok (.aload_n 0, 1) := by decide +kernel
theorem dX11_apply_175 : decode cX11_apply 175 = .ok (.getfield 7, 3) := by decide +kernel
theorem dX11_apply_178 : decode cX11_apply 178 = .ok (.bipush 36, 2) := by decide +kernel
theorem dX11_apply_180 : decode cX11_apply 180 = .ok (.iconst 0, 1) := by decide +kernel
theorem dX11_apply_181 : decode cX11_apply 181 = .ok (.iastore, 1) := by decide +kernel
theorem dX11_apply_182 : decode cX11_apply 182 = .ok (.iconst 0, 1) := by decide +kernel
theorem dX11_apply_183 : decode cX11_apply 183 = .ok (.istore 4, 2) := by decide +kernel
theorem dX11_apply_185 : decode cX11_apply 185 = .ok (.iload 4, 2) := by decide +kernel
theorem dX11_apply_187 : decode cX11_apply 187 = .ok (.iconst 5, 1) := by decide +kernel
theorem dX11_apply_188 : decode cX11_apply 188 = .ok (.if_icmp .ge 31, 3) := by decide +kernel
theorem dX11_apply_191 : decode cX11_apply 191 = .ok (.aload_n 0, 1) := by decide +kernel
theorem dX11_apply_192 : decode cX11_apply 192 = .ok (.getfield 7, 3) := by decide +kernel
theorem dX11_apply_195 : decode cX11_apply 195 = .ok (.bipush 20, 2) := by decide +kernel
theorem dX11_apply_197 : decode cX11_apply 197 = .ok (.iload 4, 2) := by decide +kernel
theorem dX11_apply_199 : decode cX11_apply 199 = .ok (.iadd, 1) := by decide +kernel
theorem dX11_apply_200 : decode cX11_apply 200 = .ok (.iconst 0, 1) := by decide +kernel
theorem dX11_apply_201 : decode cX11_apply 201 = .ok (.iastore, 1) := by decide +kernel
theorem dX11_apply_202 : decode cX11_apply 202 = .ok (.aload_n 0, 1) := by decide +kernel
theorem dX11_apply_203 : decode cX11_apply 203 = .ok (.getfield 7, 3) := by decide +kernel
theorem dX11_apply_206 : decode cX11_apply 206 = .ok (.bipush 25, 2) := by decide +kernel
theorem dX11_apply_208 : decode cX11_apply 208 = .ok (.iload 4, 2) := by decide +kernel
theorem dX11_apply_210 : decode cX11_apply 210 = .ok (.iadd, 1) := by decide +kernel
theorem dX11_apply_211 : decode cX11_apply 211 = .ok (.iconst 0, 1) := by decide +kernel
theorem dX11_apply_212 : decode cX11_apply 212 = .ok (.iastore, 1) := by decide +kernel
theorem dX11_apply_213 : decode cX11_apply 213 = .ok (.iinc 4 1, 3) := by decide +kernel
theorem dX11_apply_216 : decode cX11_apply 216 = .ok (.goto (-31), 3) := by decide +kernel
theorem dX11_apply_219 : decode cX11_apply 219 = .ok (.iconst 0, 1) := by decide +kernel
theorem dX11_apply_220 : decode cX11_apply 220 = .ok (.istore 4, 2) := by decide +kernel
theorem dX11_apply_222 : decode cX11_apply 222 = .ok (.iload 4, 2) := by decide +kernel
theorem dX11_apply_224 : decode cX11_apply 224 = .ok (.iconst 2, 1) := by decide +kernel
theorem dX11_apply_225 : decode cX11_apply 225 = .ok (.aload_n 0, 1) := by decide +kernel
theorem dX11_apply_226 : decode cX11_apply 226 = .ok (.getfield 79, 3) := by decide +kernel
theorem dX11_apply_229 : decode cX11_apply 229 = .ok (.imul, 1) := by decide +kernel
theorem dX11_apply_230 : decode cX11_apply 230 = .ok (.if_icmp .ge 42, 3) := by decide +kernel
theorem dX11_apply_233 : decode cX11_apply 233 = .ok (.aload_n 0, 1) := by decide +kernel
theorem dX11_apply_234 : decode cX11_apply 234 = .ok (.getfield 7, 3) := by decide +kernel
theorem dX11_apply_237 : decode cX11_apply 237 = .ok (.iconst 0, 1) := by decide +kernel
theorem dX11_apply_238 : decode cX11_apply 238 = .ok (.iload 4, 2) := by decide +kernel
theorem dX11_apply_240 : decode cX11_apply 240 = .ok (.iadd, 1) := by decide +kernel
theorem dX11_apply_241 : decode cX11_apply 241 = .ok (.aload_n 0, 1) := by decide +kernel
theorem dX11_apply_242 : decode cX11_apply 242 = .ok (.getfield 72, 3) := by decide +kernel
theorem dX11_apply_245 : decode cX11_apply 245 = .ok (.iload 4, 2) := by decide +kernel
theorem dX11_apply_247 : decode cX11_apply 247 = .ok (.iaload, 1) := by decide +kernel
theorem dX11_apply_248 : decode cX11_apply 248 = .ok (.iastore, 1) := by decide +kernel
theorem dX11_apply_249 : decode cX11_apply 249 = .ok (.aload_n 0, 1) := by decide +kernel
theorem dX11_apply_250 : decode cX11_apply 250 = .ok (.getfield 7, 3) := by decide +kernel
theorem dX11_apply_253 : decode cX11_apply 253 = .ok (.bipush 10, 2) := by decide +kernel
theorem dX11_apply_255 : decode cX11_apply 255 = .ok (.iload 4, 2) := by decide +kernel
theorem dX11_apply_257 : decode cX11_apply 257 = .ok (.iadd, 1) := by decide +kernel
theorem dX11_apply_258 : decode cX11_apply 258 = .ok (.aload_n 0, 1) := by decide +kernel
theorem dX11_apply_259 : decode cX11_apply 259 = .ok (.getfield 72, 3) := by decide +kernel
theorem dX11_apply_262 : decode cX11_apply 262 = .ok (.iload 4, 2) := by decide +kernel
theorem dX11_apply_264 : decode cX11_apply 264 = .ok (.iaload, 1) := by decide +kernel
theorem dX11_apply_265 : decode cX11_apply 265 = .ok (.iastore, 1) := by decide +kernel
theorem dX11_apply_266 : decode cX11_apply 266 = .ok (.iinc 4 1, 3) := by decide +kernel
theorem dX11_apply_269 : decode cX11_apply 269 = .ok (.goto (-47), 3) := by decide +kernel
theorem dX11_apply_272 : decode cX11_apply 272 = .ok (.aload_n 0, 1) := by decide +kernel
theorem dX11_apply_273 : decode cX11_apply 273 = .ok (.invokevirtual 83, 3) := by decide +kernel
theorem dX11_apply_276 : decode cX11_apply 276 = .ok (.iconst 0, 1) := by decide +kernel
theorem dX11_apply_277 : decode cX11_apply 277 = .ok (.istore 4, 2) := by decide +kernel
theorem dX11_apply_279 : decode cX11_apply 279 = .ok (.iload 4, 2) := by decide +kernel
theorem dX11_apply_281 : decode cX11_apply 281 = .ok (.aload_n 0, 1) := by decide +kernel
theorem dX11_apply_282 : decode cX11_apply 282 = .ok (.getfield 13, 3) := by decide +kernel
theorem dX11_apply_285 : decode cX11_apply 285 = .ok (.bipush 36, 2) := by decide +kernel
theorem dX11_apply_287 : decode cX11_apply 287 = .ok (.iaload, 1) := by decide +kernel
theorem dX11_apply_288 : decode cX11_apply 288 = .ok (.if_icmp .ge 96, 3) := by decide +kernel
theorem dX11_apply_291 : decode cX11_apply 291 = .ok (.bipush 64, 2) := by decide +kernel
theorem dX11_apply_293 : decode cX11_apply 293 = .ok (.bipush 12, 2) := by decide +kernel
theorem dX11_apply_295 : decode cX11_apply 295 = .ok (.iload 4, 2) := by decide +kernel
theorem dX11_apply_297 : decode cX11_apply 297 = .ok (.imul, 1) := by decide +kernel
theorem dX11_apply_298 : decode cX11_apply 298 = .ok (.iadd, 1) := by decide +kernel
theorem dX11_apply_299 : decode cX11_apply 299 = .ok (.istore 5, 2) := by decide +kernel
theorem dX11_apply_301 : decode cX11_apply 301 = .ok (.aload_n 0, 1) := by decide +kernel
theorem dX11_apply_302 : decode cX11_apply 302 = .ok (.iconst 0, 1) := by decide +kernel
theorem dX11_apply_303 : decode cX11_apply 303 = .ok (.invokevirtual 210, 3) := by decide +kernel
theorem dX11_apply_306 : decode cX11_apply 306 = .ok (.istore 6, 2) := by decide +kernel
theorem dX11_apply_308 : decode cX11_apply 308 = .ok (.aload_n 0, 1) := by decide +kernel
theorem dX11_apply_309 : decode cX11_apply 309 = .ok (.getfield 13, 3) := by decide +kernel
theorem dX11_apply_312 : decode cX11_apply 312 = .ok (.iload 5, 2) := by decide +kernel
theorem dX11_apply_314 : decode cX11_apply 314 = .ok (.bipush 6, 2) := by decide +kernel
theorem dX11_apply_316 : decode cX11_apply 316 = .ok (.iadd, 1) := by decide +kernel
theorem dX11_apply_317 : decode cX11_apply 317 = .ok (.iaload, 1) := by decide +kernel
theorem dX11_apply_318 : decode cX11_apply 318 = .ok (.aload_n 0, 1) := by decide +kernel
theorem dX11_apply_319 : decode cX11_apply 319 = .ok (.getfield 13, 3) := by decide +kernel
theorem dX11_apply_322 : decode cX11_apply 322 = .ok (.bipush 20, 2) := by decide +kernel
theorem dX11_apply_324 : decode cX11_apply 324 = .ok (.aload_n 0, 1) := by decide +kernel
theorem dX11_apply_325 : decode cX11_apply 325 = .ok (.getfield 13, 3) := by decide +kernel
theorem dX11_apply_328 : decode cX11_apply 328 = .ok (.iload 5, 2) := by decide +kernel
theorem dX11_apply_330 : decode cX11_apply 330 = .ok (.iaload, 1) := by decide +kernel
theorem dX11_apply_331 : decode cX11_apply 331 = .ok (.iadd, 1) := by decide +kernel
theorem dX11_apply_332 : decode cX11_apply 332 = .ok (.iaload, 1) := by decide +kernel
theorem dX11_apply_333 : decode cX11_apply 333 = .ok (.if_icmp .ge 7, 3) := by decide +kernel
theorem dX11_apply_336 : decode cX11_apply 336 = .ok (.iconst 1, 1) := by decide +kernel
theorem dX11_apply_337 : decode cX11_apply 337 = .ok (.goto 4, 3) := by decide +kernel
theorem dX11_apply_340 : decode cX11_apply 340 = .ok (.iconst 0, 1) := by decide +kernel
theorem dX11_apply_341 : decode cX11_apply 341 = .ok (.istore 7, 2) := by decide +kernel
theorem dX11_apply_343 : decode cX11_apply 343 = .ok (.iload 7, 2) := by decide +kernel
theorem dX11_apply_345 : decode cX11_apply 345 = .ok (.ifCond .ne 33, 3) := by decide +kernel
theorem dX11_apply_348 : decode cX11_apply 348 = .ok (.aload_n 0, 1) := by decide +kernel
theorem dX11_apply_349 : decode cX11_apply 349 = .ok (.iload 5, 2) := by decide +kernel
theorem dX11_apply_351 : decode cX11_apply 351 = .ok (.invokevirtual 261, 3) := by decide +kernel
theorem dX11_apply_354 : decode cX11_apply 354 = .ok (.ifCond .eq 24, 3) := by decide +kernel
theorem dX11_apply_357 : decode cX11_apply 357 = .ok (.iload_n 1, 1) := by decide +kernel
theorem dX11_apply_358 : decode cX11_apply 358 = .ok (.ifCond .eq 20, 3) := by decide +kernel
theorem dX11_apply_361 : decode cX11_apply 361 = .ok (.aload_n 0, 1) := by decide +kernel
theorem dX11_apply_362 : decode cX11_apply 362 = .ok (.iconst 0, 1) := by decide +kernel
theorem dX11_apply_363 : decode cX11_apply 363 = .ok (.invokevirtual 210, 3) := by decide +kernel
theorem dX11_apply_366 : decode cX11_apply 366 = .ok (.iload 6, 2) := by decide +kernel
theorem dX11_apply_368 : decode cX11_apply 368 = .ok (.iconst (-1), 1) := by decide +kernel
theorem dX11_apply_369 : decode cX11_apply 369 = .ok (.ixor, 1) := by decide +kernel
theorem dX11_apply_370 : decode cX11_apply 370 = .ok (.iand, 1) := by decide +kernel
theorem dX11_apply_371 : decode cX11_apply 371 = .ok (.ifCond .eq 7, 3) := by decide +kernel
theorem dX11_apply_374 : decode cX11_apply 374 = .ok (.aload_n 0, 1) := by decide +kernel
theorem dX11_apply_375 : decode cX11_apply 375 = .ok (.invokevirtual 264, 3) := by decide +kernel
theorem dX11_apply_378 : decode cX11_apply 378 = .ok (.iinc 4 1, 3) := by decide +kernel
theorem dX11_apply_381 : decode cX11_apply 381 = .ok (.goto (-102), 3) := by decide +kernel
theorem dX11_apply_384 : decode cX11_apply 384 = .ok (.aload_n 0, 1) := by decide +kernel
theorem dX11_apply_385 : decode cX11_apply 385 = .ok (.getfield 7, 3) := by decide +kernel
theorem dX11_apply_388 : decode cX11_apply 388 = .ok (.bipush 36, 2) := by decide +kernel
theorem dX11_apply_390 : decode cX11_apply 390 = .ok (.iaload, 1) := by decide +kernel
theorem dX11_apply_391 : decode cX11_apply 391 = .ok (.ireturn, 1) := by decide +kernel
theorem dX11_restore_0 : decode cX11_restore 0 = .ok (.aload_n 0, 1) := by decide +kernel
theorem dX11_restore_1 : decode cX11_restore 1 = .ok (.getfield 86, 3) := by decide +kernel
theorem dX11_restore_4 : decode cX11_restore 4 = .ok (.ifCond .ne 6, 3) := by decide +kernel
theorem dX11_restore_7 : decode cX11_restore 7 = .ok (.ldc 127, 2) := by decide +kernel
theorem dX11_restore_9 : decode cX11_restore 9 = .ok (.ireturn, 1) := by decide +kernel
theorem dX11_restore_10 : decode cX11_restore 10 = .ok (.aload_n 0, 1) := by decide +kernel
theorem dX11_restore_11 : decode cX11_restore 11 = .ok (.iconst 0, 1) := by decide +kernel
theorem dX11_restore_12 : decode cX11_restore 12 = .ok (.putfield 86, 3) := by decide +kernel
theorem dX11_restore_15 : decode cX11_restore 15 = .ok (.iconst 0, 1) := by decide +kernel
theorem dX11_restore_16 : decode cX11_restore 16 = .ok (.istore_n 1, 1) := by decide +kernel
theorem dX11_restore_17 : decode cX11_restore 17 = .ok (.iload_n 1, 1) := by decide +kernel
theorem dX11_restore_18 : decode cX11_restore 18 = .ok (.sipush 5104, 3) := by decide +kernel
theorem dX11_restore_21 : decode cX11_restore 21 = .ok (.if_icmp .ge 21, 3) := by decide +kernel
theorem dX11_restore_24 : decode cX11_restore 24 = .ok (.aload_n 0, 1) := by decide +kernel
theorem dX11_restore_25 : decode cX11_restore 25 = .ok (.getfield 7, 3) := by decide +kernel
theorem dX11_restore_28 : decode cX11_restore 28 = .ok (.iload_n 1, 1) := by decide +kernel
theorem dX11_restore_29 : decode cX11_restore 29 = .ok (.aload_n 0, 1) := by decide +kernel
theorem dX11_restore_30 : decode cX11_restore 30 = .ok (.getfield 13, 3) := by decide +kernel
theorem dX11_restore_33 : decode cX11_restore 33 = .ok (.iload_n 1, 1) := by decide +kernel
theorem dX11_restore_34 : decode cX11_restore 34 = .ok (.iaload, 1) := by decide +kernel
theorem dX11_restore_35 : decode cX11_restore 35 = .ok (.iastore, 1) := by decide +kernel
theorem dX11_restore_36 : decode cX11_restore 36 = .ok (.iinc 1 1, 3) := by decide +kernel
theorem dX11_restore_39 : decode cX11_restore 39 = .ok (.goto (-22), 3) := by decide +kernel
theorem dX11_restore_42 : decode cX11_restore 42 = .ok (.aload_n 0, 1) := by decide +kernel
theorem dX11_restore_43 : decode cX11_restore 43 = .ok (.getfield 7, 3) := by decide +kernel
theorem dX11_restore_46 : decode cX11_restore 46 = .ok (.bipush 36, 2) := by decide +kernel
theorem dX11_restore_48 : decode cX11_restore 48 = .ok (.iaload, 1) := by decide +kernel
theorem dX11_restore_49 : decode cX11_restore 49 = .ok (.ireturn, 1) := by decide +kernel
