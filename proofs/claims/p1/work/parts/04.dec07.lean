theorem d_RangeTellerModel_leaves_143 : decode b_RangeTellerModel_leaves 143 = .ok (.aload_n 0, 1) := by decide +kernel
theorem d_RangeTellerModel_leaves_144 : decode b_RangeTellerModel_leaves 144 = .ok (.getfield 150, 3) := by decide +kernel
theorem d_RangeTellerModel_leaves_147 : decode b_RangeTellerModel_leaves 147 = .ok (.iload_n 3, 1) := by decide +kernel
theorem d_RangeTellerModel_leaves_148 : decode b_RangeTellerModel_leaves 148 = .ok (.aload_n 0, 1) := by decide +kernel
theorem d_RangeTellerModel_leaves_149 : decode b_RangeTellerModel_leaves 149 = .ok (.getfield 141, 3) := by decide +kernel
theorem d_RangeTellerModel_leaves_152 : decode b_RangeTellerModel_leaves 152 = .ok (.iload 4, 2) := by decide +kernel
theorem d_RangeTellerModel_leaves_154 : decode b_RangeTellerModel_leaves 154 = .ok (.baload, 1) := by decide +kernel
theorem d_RangeTellerModel_leaves_155 : decode b_RangeTellerModel_leaves 155 = .ok (.bastore, 1) := by decide +kernel
theorem d_RangeTellerModel_leaves_156 : decode b_RangeTellerModel_leaves 156 = .ok (.aload_n 0, 1) := by decide +kernel
theorem d_RangeTellerModel_leaves_157 : decode b_RangeTellerModel_leaves 157 = .ok (.iload_n 2, 1) := by decide +kernel
theorem d_RangeTellerModel_leaves_158 : decode b_RangeTellerModel_leaves 158 = .ok (.bipush 13, 2) := by decide +kernel
theorem d_RangeTellerModel_leaves_160 : decode b_RangeTellerModel_leaves 160 = .ok (.if_icmp .ne 12, 3) := by decide +kernel
theorem d_RangeTellerModel_leaves_172 : decode b_RangeTellerModel_leaves 172 = .ok (.aload_n 0, 1) := by decide +kernel
theorem d_RangeTellerModel_leaves_173 : decode b_RangeTellerModel_leaves 173 = .ok (.getfield 294, 3) := by decide +kernel
theorem d_RangeTellerModel_leaves_176 : decode b_RangeTellerModel_leaves 176 = .ok (.putfield 294, 3) := by decide +kernel
theorem d_RangeTellerModel_leaves_179 : decode b_RangeTellerModel_leaves 179 = .ok (.goto 182, 3) := by decide +kernel
theorem d_RangeTellerModel_leaves_163 : decode b_RangeTellerModel_leaves 163 = .ok (.aload_n 0, 1) := by decide +kernel
theorem d_RangeTellerModel_leaves_164 : decode b_RangeTellerModel_leaves 164 = .ok (.getfield 294, 3) := by decide +kernel
theorem d_RangeTellerModel_leaves_167 : decode b_RangeTellerModel_leaves 167 = .ok (.iconst 1, 1) := by decide +kernel
theorem d_RangeTellerModel_leaves_168 : decode b_RangeTellerModel_leaves 168 = .ok (.isub, 1) := by decide +kernel
theorem d_RangeTellerModel_leaves_169 : decode b_RangeTellerModel_leaves 169 = .ok (.goto 7, 3) := by decide +kernel
theorem d_RangeTellerModel_leaves_233 : decode b_RangeTellerModel_leaves 233 = .ok (.invokevirtual 319, 3) := by decide +kernel
theorem d_RangeTellerModel_leaves_236 : decode b_RangeTellerModel_leaves 236 = .ok (.aload_n 0, 1) := by decide +kernel
theorem d_RangeTellerModel_leaves_237 : decode b_RangeTellerModel_leaves 237 = .ok (.dup, 1) := by decide +kernel
theorem d_RangeTellerModel_leaves_238 : decode b_RangeTellerModel_leaves 238 = .ok (.getfield 294, 3) := by decide +kernel
theorem d_RangeTellerModel_leaves_241 : decode b_RangeTellerModel_leaves 241 = .ok (.iconst 1, 1) := by decide +kernel
theorem d_RangeTellerModel_leaves_242 : decode b_RangeTellerModel_leaves 242 = .ok (.iadd, 1) := by decide +kernel
theorem d_RangeTellerModel_leaves_243 : decode b_RangeTellerModel_leaves 243 = .ok (.putfield 294, 3) := by decide +kernel
theorem d_RangeTellerModel_leaves_246 : decode b_RangeTellerModel_leaves 246 = .ok (.goto 115, 3) := by decide +kernel
theorem d_RangeTellerModel_leaves_222 : decode b_RangeTellerModel_leaves 222 = .ok (.iload_n 2, 1) := by decide +kernel
theorem d_RangeTellerModel_leaves_223 : decode b_RangeTellerModel_leaves 223 = .ok (.bipush 27, 2) := by decide +kernel
theorem d_RangeTellerModel_leaves_225 : decode b_RangeTellerModel_leaves 225 = .ok (.if_icmp .ne 7, 3) := by decide +kernel
theorem d_RangeTellerModel_leaves_232 : decode b_RangeTellerModel_leaves 232 = .ok (.iconst 0, 1) := by decide +kernel
theorem d_RangeTellerModel_leaves_228 : decode b_RangeTellerModel_leaves 228 = .ok (.iconst 1, 1) := by decide +kernel
theorem d_RangeTellerModel_leaves_229 : decode b_RangeTellerModel_leaves 229 = .ok (.goto 4, 3) := by decide +kernel
theorem d_RangeTellerModel_leaves_210 : decode b_RangeTellerModel_leaves 210 = .ok (.iload_n 2, 1) := by decide +kernel
theorem d_RangeTellerModel_leaves_211 : decode b_RangeTellerModel_leaves 211 = .ok (.bipush 17, 2) := by decide +kernel
theorem d_RangeTellerModel_leaves_213 : decode b_RangeTellerModel_leaves 213 = .ok (.if_icmp .ne 7, 3) := by decide +kernel
theorem d_RangeTellerModel_leaves_220 : decode b_RangeTellerModel_leaves 220 = .ok (.bipush 63, 2) := by decide +kernel
theorem d_RangeTellerModel_leaves_216 : decode b_RangeTellerModel_leaves 216 = .ok (.iload_n 3, 1) := by decide +kernel
theorem d_RangeTellerModel_leaves_217 : decode b_RangeTellerModel_leaves 217 = .ok (.goto 5, 3) := by decide +kernel
theorem d_RangeTellerModel_leaves_194 : decode b_RangeTellerModel_leaves 194 = .ok (.aload_n 0, 1) := by decide +kernel
theorem d_RangeTellerModel_leaves_195 : decode b_RangeTellerModel_leaves 195 = .ok (.aload_n 0, 1) := by decide +kernel
theorem d_RangeTellerModel_leaves_196 : decode b_RangeTellerModel_leaves 196 = .ok (.getfield 294, 3) := by decide +kernel
theorem d_RangeTellerModel_leaves_199 : decode b_RangeTellerModel_leaves 199 = .ok (.iload_n 2, 1) := by decide +kernel
theorem d_RangeTellerModel_leaves_200 : decode b_RangeTellerModel_leaves 200 = .ok (.bipush 17, 2) := by decide +kernel
theorem d_RangeTellerModel_leaves_202 : decode b_RangeTellerModel_leaves 202 = .ok (.if_icmp .ne 7, 3) := by decide +kernel
theorem d_RangeTellerModel_leaves_209 : decode b_RangeTellerModel_leaves 209 = .ok (.iconst 0, 1) := by decide +kernel
theorem d_RangeTellerModel_leaves_205 : decode b_RangeTellerModel_leaves 205 = .ok (.iload_n 3, 1) := by decide +kernel
theorem d_RangeTellerModel_leaves_206 : decode b_RangeTellerModel_leaves 206 = .ok (.goto 4, 3) := by decide +kernel
theorem d_RangeTellerModel_leaves_298 : decode b_RangeTellerModel_leaves 298 = .ok (.aload_n 0, 1) := by decide +kernel
theorem d_RangeTellerModel_leaves_299 : decode b_RangeTellerModel_leaves 299 = .ok (.getfield 141, 3) := by decide +kernel
theorem d_RangeTellerModel_leaves_302 : decode b_RangeTellerModel_leaves 302 = .ok (.iload 4, 2) := by decide +kernel
theorem d_RangeTellerModel_leaves_304 : decode b_RangeTellerModel_leaves 304 = .ok (.baload, 1) := by decide +kernel
theorem d_RangeTellerModel_leaves_305 : decode b_RangeTellerModel_leaves 305 = .ok (.invokevirtual 319, 3) := by decide +kernel
theorem d_RangeTellerModel_leaves_308 : decode b_RangeTellerModel_leaves 308 = .ok (.goto 53, 3) := by decide +kernel
theorem d_RangeTellerModel_leaves_283 : decode b_RangeTellerModel_leaves 283 = .ok (.aload_n 0, 1) := by decide +kernel
theorem d_RangeTellerModel_leaves_284 : decode b_RangeTellerModel_leaves 284 = .ok (.getfield 135, 3) := by decide +kernel
theorem d_RangeTellerModel_leaves_287 : decode b_RangeTellerModel_leaves 287 = .ok (.iload 4, 2) := by decide +kernel
theorem d_RangeTellerModel_leaves_289 : decode b_RangeTellerModel_leaves 289 = .ok (.iaload, 1) := by decide +kernel
theorem d_RangeTellerModel_leaves_290 : decode b_RangeTellerModel_leaves 290 = .ok (.ifCond .ne 7, 3) := by decide +kernel
theorem d_RangeTellerModel_leaves_297 : decode b_RangeTellerModel_leaves 297 = .ok (.iconst 0, 1) := by decide +kernel
theorem d_RangeTellerModel_leaves_293 : decode b_RangeTellerModel_leaves 293 = .ok (.iconst 1, 1) := by decide +kernel
theorem d_RangeTellerModel_leaves_294 : decode b_RangeTellerModel_leaves 294 = .ok (.goto 4, 3) := by decide +kernel
theorem d_RangeTellerModel_leaves_282 : decode b_RangeTellerModel_leaves 282 = .ok (.iconst 0, 1) := by decide +kernel
theorem d_RangeTellerModel_leaves_0 : decode b_RangeTellerModel_leaves 0 = .ok (.aload_n 0, 1) := by decide +kernel
theorem d_RangeTellerModel_leaves_1 : decode b_RangeTellerModel_leaves 1 = .ok (.getfield 17, 3) := by decide +kernel
theorem d_RangeTellerModel_leaves_4 : decode b_RangeTellerModel_leaves 4 = .ok (.iload_n 1, 1) := by decide +kernel
theorem d_RangeTellerModel_leaves_5 : decode b_RangeTellerModel_leaves 5 = .ok (.iaload, 1) := by decide +kernel
theorem d_RangeTellerModel_leaves_6 : decode b_RangeTellerModel_leaves 6 = .ok (.istore_n 2, 1) := by decide +kernel
theorem d_RangeTellerModel_leaves_7 : decode b_RangeTellerModel_leaves 7 = .ok (.aload_n 0, 1) := by decide +kernel
theorem d_RangeTellerModel_leaves_8 : decode b_RangeTellerModel_leaves 8 = .ok (.getfield 20, 3) := by decide +kernel
theorem d_RangeTellerModel_leaves_11 : decode b_RangeTellerModel_leaves 11 = .ok (.iload_n 1, 1) := by decide +kernel
theorem d_RangeTellerModel_leaves_12 : decode b_RangeTellerModel_leaves 12 = .ok (.iaload, 1) := by decide +kernel
theorem d_RangeTellerModel_leaves_13 : decode b_RangeTellerModel_leaves 13 = .ok (.istore_n 3, 1) := by decide +kernel
theorem d_RangeTellerModel_leaves_14 : decode b_RangeTellerModel_leaves 14 = .ok (.aload_n 0, 1) := by decide +kernel
theorem d_RangeTellerModel_leaves_15 : decode b_RangeTellerModel_leaves 15 = .ok (.getfield 294, 3) := by decide +kernel
theorem d_RangeTellerModel_leaves_18 : decode b_RangeTellerModel_leaves 18 = .ok (.iconst 1, 1) := by decide +kernel
theorem d_RangeTellerModel_leaves_19 : decode b_RangeTellerModel_leaves 19 = .ok (.isub, 1) := by decide +kernel
theorem d_RangeTellerModel_leaves_20 : decode b_RangeTellerModel_leaves 20 = .ok (.istore 4, 2) := by decide +kernel
theorem d_RangeTellerModel_leaves_22 : decode b_RangeTellerModel_leaves 22 = .ok (.iload_n 2, 1) := by decide +kernel
theorem d_RangeTellerModel_leaves_23 : decode b_RangeTellerModel_leaves 23 = .ok (.bipush 10, 2) := by decide +kernel
theorem d_RangeTellerModel_leaves_25 : decode b_RangeTellerModel_leaves 25 = .ok (.if_icmp .eq 9, 3) := by decide +kernel
theorem d_RangeTellerModel_leaves_28 : decode b_RangeTellerModel_leaves 28 = .ok (.iload_n 2, 1) := by decide +kernel
theorem d_RangeTellerModel_leaves_29 : decode b_RangeTellerModel_leaves 29 = .ok (.bipush 28, 2) := by decide +kernel
theorem d_RangeTellerModel_leaves_31 : decode b_RangeTellerModel_leaves 31 = .ok (.if_icmp .ne 16, 3) := by decide +kernel
theorem d_RangeTellerModel_leaves_47 : decode b_RangeTellerModel_leaves 47 = .ok (.iload_n 2, 1) := by decide +kernel
theorem d_RangeTellerModel_leaves_48 : decode b_RangeTellerModel_leaves 48 = .ok (.bipush 11, 2) := by decide +kernel
theorem d_RangeTellerModel_leaves_50 : decode b_RangeTellerModel_leaves 50 = .ok (.if_icmp .ne 10, 3) := by decide +kernel
theorem d_RangeTellerModel_leaves_60 : decode b_RangeTellerModel_leaves 60 = .ok (.iload_n 2, 1) := by decide +kernel
theorem d_RangeTellerModel_leaves_61 : decode b_RangeTellerModel_leaves 61 = .ok (.bipush 12, 2) := by decide +kernel
theorem d_RangeTellerModel_leaves_63 : decode b_RangeTellerModel_leaves 63 = .ok (.if_icmp .ne 42, 3) := by decide +kernel
theorem d_RangeTellerModel_leaves_105 : decode b_RangeTellerModel_leaves 105 = .ok (.iload_n 2, 1) := by decide +kernel
theorem d_RangeTellerModel_leaves_106 : decode b_RangeTellerModel_leaves 106 = .ok (.bipush 13, 2) := by decide +kernel
theorem d_RangeTellerModel_leaves_108 : decode b_RangeTellerModel_leaves 108 = .ok (.if_icmp .eq 9, 3) := by decide +kernel
theorem d_RangeTellerModel_leaves_111 : decode b_RangeTellerModel_leaves 111 = .ok (.iload_n 2, 1) := by decide +kernel
theorem d_RangeTellerModel_leaves_112 : decode b_RangeTellerModel_leaves 112 = .ok (.bipush 14, 2) := by decide +kernel
theorem d_RangeTellerModel_leaves_114 : decode b_RangeTellerModel_leaves 114 = .ok (.if_icmp .ne 68, 3) := by decide +kernel
theorem d_RangeTellerModel_leaves_182 : decode b_RangeTellerModel_leaves 182 = .ok (.iload_n 2, 1) := by decide +kernel
theorem d_RangeTellerModel_leaves_183 : decode b_RangeTellerModel_leaves 183 = .ok (.bipush 17, 2) := by decide +kernel
theorem d_RangeTellerModel_leaves_185 : decode b_RangeTellerModel_leaves 185 = .ok (.if_icmp .eq 9, 3) := by decide +kernel
theorem d_RangeTellerModel_leaves_188 : decode b_RangeTellerModel_leaves 188 = .ok (.iload_n 2, 1) := by decide +kernel
theorem d_RangeTellerModel_leaves_189 : decode b_RangeTellerModel_leaves 189 = .ok (.bipush 27, 2) := by decide +kernel
theorem d_RangeTellerModel_leaves_191 : decode b_RangeTellerModel_leaves 191 = .ok (.if_icmp .ne 58, 3) := by decide +kernel
theorem d_RangeTellerModel_leaves_249 : decode b_RangeTellerModel_leaves 249 = .ok (.iload_n 2, 1) := by decide +kernel
theorem d_RangeTellerModel_leaves_250 : decode b_RangeTellerModel_leaves 250 = .ok (.bipush 18, 2) := by decide +kernel
theorem d_RangeTellerModel_leaves_252 : decode b_RangeTellerModel_leaves 252 = .ok (.if_icmp .ne 59, 3) := by decide +kernel
theorem d_RangeTellerModel_leaves_311 : decode b_RangeTellerModel_leaves 311 = .ok (.aload_n 0, 1) := by decide +kernel
theorem d_RangeTellerModel_leaves_312 : decode b_RangeTellerModel_leaves 312 = .ok (.iload_n 2, 1) := by decide +kernel
theorem d_RangeTellerModel_leaves_313 : decode b_RangeTellerModel_leaves 313 = .ok (.invokevirtual 335, 3) := by decide +kernel
theorem d_RangeTellerModel_leaves_316 : decode b_RangeTellerModel_leaves 316 = .ok (.aload_n 0, 1) := by decide +kernel
theorem d_RangeTellerModel_leaves_317 : decode b_RangeTellerModel_leaves 317 = .ok (.getfield 297, 3) := by decide +kernel
theorem d_RangeTellerModel_leaves_320 : decode b_RangeTellerModel_leaves 320 = .ok (.aload_n 0, 1) := by decide +kernel
theorem d_RangeTellerModel_leaves_321 : decode b_RangeTellerModel_leaves 321 = .ok (.getfield 300, 3) := by decide +kernel
theorem d_RangeTellerModel_leaves_324 : decode b_RangeTellerModel_leaves 324 = .ok (.if_icmp .le 5, 3) := by decide +kernel
theorem d_RangeTellerModel_leaves_329 : decode b_RangeTellerModel_leaves 329 = .ok (.aload_n 0, 1) := by decide +kernel
theorem d_RangeTellerModel_leaves_330 : decode b_RangeTellerModel_leaves 330 = .ok (.dup, 1) := by decide +kernel
theorem d_RangeTellerModel_leaves_331 : decode b_RangeTellerModel_leaves 331 = .ok (.getfield 294, 3) := by decide +kernel
theorem d_RangeTellerModel_leaves_334 : decode b_RangeTellerModel_leaves 334 = .ok (.iconst 1, 1) := by decide +kernel
theorem d_RangeTellerModel_leaves_335 : decode b_RangeTellerModel_leaves 335 = .ok (.isub, 1) := by decide +kernel
theorem d_RangeTellerModel_leaves_336 : decode b_RangeTellerModel_leaves 336 = .ok (.putfield 294, 3) := by decide +kernel
theorem d_RangeTellerModel_leaves_339 : decode b_RangeTellerModel_leaves 339 = .ok (.aload_n 0, 1) := by decide +kernel
theorem d_RangeTellerModel_leaves_340 : decode b_RangeTellerModel_leaves 340 = .ok (.aload_n 0, 1) := by decide +kernel
theorem d_RangeTellerModel_leaves_341 : decode b_RangeTellerModel_leaves 341 = .ok (.getfield 294, 3) := by decide +kernel
theorem d_RangeTellerModel_leaves_344 : decode b_RangeTellerModel_leaves 344 = .ok (.iconst 1, 1) := by decide +kernel
theorem d_RangeTellerModel_leaves_345 : decode b_RangeTellerModel_leaves 345 = .ok (.isub, 1) := by decide +kernel
theorem d_RangeTellerModel_leaves_346 : decode b_RangeTellerModel_leaves 346 = .ok (.aload_n 0, 1) := by decide +kernel
theorem d_RangeTellerModel_leaves_347 : decode b_RangeTellerModel_leaves 347 = .ok (.getfield 297, 3) := by decide +kernel
theorem d_RangeTellerModel_leaves_350 : decode b_RangeTellerModel_leaves 350 = .ok (.aload_n 0, 1) := by decide +kernel
theorem d_RangeTellerModel_leaves_351 : decode b_RangeTellerModel_leaves 351 = .ok (.getfield 300, 3) := by decide +kernel
theorem d_RangeTellerModel_leaves_354 : decode b_RangeTellerModel_leaves 354 = .ok (.aload_n 0, 1) := by decide +kernel
theorem d_RangeTellerModel_leaves_355 : decode b_RangeTellerModel_leaves 355 = .ok (.getfield 303, 3) := by decide +kernel
theorem d_RangeTellerModel_leaves_358 : decode b_RangeTellerModel_leaves 358 = .ok (.invokevirtual 319, 3) := by decide +kernel
theorem d_RangeTellerModel_leaves_327 : decode b_RangeTellerModel_leaves 327 = .ok (.iconst 0, 1) := by decide +kernel
theorem d_RangeTellerModel_leaves_328 : decode b_RangeTellerModel_leaves 328 = .ok (.ireturn, 1) := by decide +kernel
theorem d_RangeTellerModel_leaves_255 : decode b_RangeTellerModel_leaves 255 = .ok (.aload_n 0, 1) := by decide +kernel
theorem d_RangeTellerModel_leaves_256 : decode b_RangeTellerModel_leaves 256 = .ok (.iload 4, 2) := by decide +kernel
theorem d_RangeTellerModel_leaves_258 : decode b_RangeTellerModel_leaves 258 = .ok (.aload_n 0, 1) := by decide +kernel
theorem d_RangeTellerModel_leaves_259 : decode b_RangeTellerModel_leaves 259 = .ok (.getfield 135, 3) := by decide +kernel
theorem d_RangeTellerModel_leaves_262 : decode b_RangeTellerModel_leaves 262 = .ok (.iload 4, 2) := by decide +kernel
theorem d_RangeTellerModel_leaves_264 : decode b_RangeTellerModel_leaves 264 = .ok (.iaload, 1) := by decide +kernel
theorem d_RangeTellerModel_leaves_265 : decode b_RangeTellerModel_leaves 265 = .ok (.ifCond .ne 17, 3) := by decide +kernel
theorem d_RangeTellerModel_leaves_268 : decode b_RangeTellerModel_leaves 268 = .ok (.aload_n 0, 1) := by decide +kernel
theorem d_RangeTellerModel_leaves_269 : decode b_RangeTellerModel_leaves 269 = .ok (.getfield 138, 3) := by decide +kernel
theorem d_RangeTellerModel_leaves_272 : decode b_RangeTellerModel_leaves 272 = .ok (.iload 4, 2) := by decide +kernel
theorem d_RangeTellerModel_leaves_274 : decode b_RangeTellerModel_leaves 274 = .ok (.iaload, 1) := by decide +kernel
theorem d_RangeTellerModel_leaves_275 : decode b_RangeTellerModel_leaves 275 = .ok (.ifCond .ne 7, 3) := by decide +kernel
theorem d_RangeTellerModel_leaves_278 : decode b_RangeTellerModel_leaves 278 = .ok (.iconst 1, 1) := by decide +kernel
theorem d_RangeTellerModel_leaves_279 : decode b_RangeTellerModel_leaves 279 = .ok (.goto 4, 3) := by decide +kernel
theorem d_RangeTellerModel_leaves_66 : decode b_RangeTellerModel_leaves 66 = .ok (.aload_n 0, 1) := by decide +kernel
theorem d_RangeTellerModel_leaves_67 : decode b_RangeTellerModel_leaves 67 = .ok (.aload_n 0, 1) := by decide +kernel
theorem d_RangeTellerModel_leaves_68 : decode b_RangeTellerModel_leaves 68 = .ok (.getfield 294, 3) := by decide +kernel
theorem d_RangeTellerModel_leaves_71 : decode b_RangeTellerModel_leaves 71 = .ok (.aload_n 0, 1) := by decide +kernel
theorem d_RangeTellerModel_leaves_72 : decode b_RangeTellerModel_leaves 72 = .ok (.getfield 144, 3) := by decide +kernel
theorem d_RangeTellerModel_leaves_75 : decode b_RangeTellerModel_leaves 75 = .ok (.iload_n 3, 1) := by decide +kernel
theorem d_RangeTellerModel_leaves_76 : decode b_RangeTellerModel_leaves 76 = .ok (.iaload, 1) := by decide +kernel
theorem d_RangeTellerModel_leaves_77 : decode b_RangeTellerModel_leaves 77 = .ok (.aload_n 0, 1) := by decide +kernel
theorem d_RangeTellerModel_leaves_78 : decode b_RangeTellerModel_leaves 78 = .ok (.getfield 147, 3) := by decide +kernel
theorem d_RangeTellerModel_leaves_81 : decode b_RangeTellerModel_leaves 81 = .ok (.iload_n 3, 1) := by decide +kernel
theorem d_RangeTellerModel_leaves_82 : decode b_RangeTellerModel_leaves 82 = .ok (.iaload, 1) := by decide +kernel
theorem d_RangeTellerModel_leaves_83 : decode b_RangeTellerModel_leaves 83 = .ok (.aload_n 0, 1) := by decide +kernel
theorem d_RangeTellerModel_leaves_84 : decode b_RangeTellerModel_leaves 84 = .ok (.getfield 150, 3) := by decide +kernel
theorem d_RangeTellerModel_leaves_87 : decode b_RangeTellerModel_leaves 87 = .ok (.iload_n 3, 1) := by decide +kernel
theorem d_RangeTellerModel_leaves_88 : decode b_RangeTellerModel_leaves 88 = .ok (.baload, 1) := by decide +kernel
theorem d_RangeTellerModel_leaves_89 : decode b_RangeTellerModel_leaves 89 = .ok (.invokevirtual 319, 3) := by decide +kernel
theorem d_RangeTellerModel_leaves_92 : decode b_RangeTellerModel_leaves 92 = .ok (.aload_n 0, 1) := by decide +kernel
theorem d_RangeTellerModel_leaves_93 : decode b_RangeTellerModel_leaves 93 = .ok (.dup, 1) := by decide +kernel
theorem d_RangeTellerModel_leaves_94 : decode b_RangeTellerModel_leaves 94 = .ok (.getfield 294, 3) := by decide +kernel
theorem d_RangeTellerModel_leaves_97 : decode b_RangeTellerModel_leaves 97 = .ok (.iconst 1, 1) := by decide +kernel
theorem d_RangeTellerModel_leaves_98 : decode b_RangeTellerModel_leaves 98 = .ok (.iadd, 1) := by decide +kernel
theorem d_RangeTellerModel_leaves_99 : decode b_RangeTellerModel_leaves 99 = .ok (.putfield 294, 3) := by decide +kernel
theorem d_RangeTellerModel_leaves_102 : decode b_RangeTellerModel_leaves 102 = .ok (.goto 259, 3) := by decide +kernel
theorem d_RangeTellerModel_leaves_53 : decode b_RangeTellerModel_leaves 53 = .ok (.aload_n 0, 1) := by decide +kernel
theorem d_RangeTellerModel_leaves_54 : decode b_RangeTellerModel_leaves 54 = .ok (.invokevirtual 332, 3) := by decide +kernel
theorem d_RangeTellerModel_leaves_57 : decode b_RangeTellerModel_leaves 57 = .ok (.goto 304, 3) := by decide +kernel
theorem d_RangeTellerModel_store1_274 : decode b_RangeTellerModel_store1 274 = .ok (.aload_n 0, 1) := by decide +kernel
theorem d_RangeTellerModel_store1_275 : decode b_RangeTellerModel_store1 275 = .ok (.aload_n 0, 1) := by decide +kernel
theorem d_RangeTellerModel_store1_276 : decode b_RangeTellerModel_store1 276 = .ok (.getfield 294, 3) := by decide +kernel
theorem d_RangeTellerModel_store1_279 : decode b_RangeTellerModel_store1 279 = .ok (.iconst 2, 1) := by decide +kernel
theorem d_RangeTellerModel_store1_280 : decode b_RangeTellerModel_store1 280 = .ok (.isub, 1) := by decide +kernel
theorem d_RangeTellerModel_store1_281 : decode b_RangeTellerModel_store1 281 = .ok (.putfield 294, 3) := by decide +kernel
theorem d_RangeTellerModel_store1_284 : decode b_RangeTellerModel_store1 284 = .ok (.iload 5, 2) := by decide +kernel
theorem d_RangeTellerModel_store1_286 : decode b_RangeTellerModel_store1 286 = .ok (.ifCond .eq 10, 3) := by decide +kernel
theorem d_RangeTellerModel_store1_296 : decode b_RangeTellerModel_store1 296 = .ok (.return_, 1) := by decide +kernel
theorem d_RangeTellerModel_store1_289 : decode b_RangeTellerModel_store1 289 = .ok (.aload_n 0, 1) := by decide +kernel
theorem d_RangeTellerModel_store1_290 : decode b_RangeTellerModel_store1 290 = .ok (.iload_n 1, 1) := by decide +kernel
theorem d_RangeTellerModel_store1_291 : decode b_RangeTellerModel_store1 291 = .ok (.iconst 1, 1) := by decide +kernel
theorem d_RangeTellerModel_store1_292 : decode b_RangeTellerModel_store1 292 = .ok (.iadd, 1) := by decide +kernel
theorem d_RangeTellerModel_store1_293 : decode b_RangeTellerModel_store1 293 = .ok (.invokevirtual 323, 3) := by decide +kernel
theorem d_RangeTellerModel_store1_262 : decode b_RangeTellerModel_store1 262 = .ok (.iload 6, 2) := by decide +kernel
theorem d_RangeTellerModel_store1_264 : decode b_RangeTellerModel_store1 264 = .ok (.ifCond .eq 10, 3) := by decide +kernel
theorem d_RangeTellerModel_store1_267 : decode b_RangeTellerModel_store1 267 = .ok (.aload_n 0, 1) := by decide +kernel
theorem d_RangeTellerModel_store1_268 : decode b_RangeTellerModel_store1 268 = .ok (.bipush 15, 2) := by decide +kernel
theorem d_RangeTellerModel_store1_270 : decode b_RangeTellerModel_store1 270 = .ok (.iconst (-1), 1) := by decide +kernel
theorem d_RangeTellerModel_store1_271 : decode b_RangeTellerModel_store1 271 = .ok (.invokevirtual 313, 3) := by decide +kernel
theorem d_RangeTellerModel_store1_255 : decode b_RangeTellerModel_store1 255 = .ok (.bastore, 1) := by decide +kernel
theorem d_RangeTellerModel_store1_256 : decode b_RangeTellerModel_store1 256 = .ok (.iinc 7 1, 3) := by decide +kernel
theorem d_RangeTellerModel_store1_259 : decode b_RangeTellerModel_store1 259 = .ok (.goto (-206), 3) := by decide +kernel
theorem d_RangeTellerModel_store1_250 : decode b_RangeTellerModel_store1 250 = .ok (.iconst 1, 1) := by decide +kernel
theorem d_RangeTellerModel_store1_251 : decode b_RangeTellerModel_store1 251 = .ok (.goto 4, 3) := by decide +kernel
theorem d_RangeTellerModel_store1_228 : decode b_RangeTellerModel_store1 228 = .ok (.iastore, 1) := by decide +kernel
theorem d_RangeTellerModel_store1_229 : decode b_RangeTellerModel_store1 229 = .ok (.aload_n 0, 1) := by decide +kernel
theorem d_RangeTellerModel_store1_230 : decode b_RangeTellerModel_store1 230 = .ok (.getfield 120, 3) := by decide +kernel
theorem d_RangeTellerModel_store1_233 : decode b_RangeTellerModel_store1 233 = .ok (.iload 8, 2) := by decide +kernel
theorem d_RangeTellerModel_store1_235 : decode b_RangeTellerModel_store1 235 = .ok (.aload_n 0, 1) := by decide +kernel
theorem d_RangeTellerModel_store1_236 : decode b_RangeTellerModel_store1 236 = .ok (.getfield 120, 3) := by decide +kernel
theorem d_RangeTellerModel_store1_239 : decode b_RangeTellerModel_store1 239 = .ok (.iload 8, 2) := by decide +kernel
theorem d_RangeTellerModel_store1_241 : decode b_RangeTellerModel_store1 241 = .ok (.baload, 1) := by decide +kernel
theorem d_RangeTellerModel_store1_242 : decode b_RangeTellerModel_store1 242 = .ok (.ifCond .ne 8, 3) := by decide +kernel
theorem d_RangeTellerModel_store1_245 : decode b_RangeTellerModel_store1 245 = .ok (.iload 4, 2) := by decide +kernel
theorem d_RangeTellerModel_store1_247 : decode b_RangeTellerModel_store1 247 = .ok (.ifCond .eq 7, 3) := by decide +kernel
theorem d_RangeTellerModel_store1_254 : decode b_RangeTellerModel_store1 254 = .ok (.iconst 0, 1) := by decide +kernel
theorem d_RangeTellerModel_store1_189 : decode b_RangeTellerModel_store1 189 = .ok (.iastore, 1) := by decide +kernel
theorem d_RangeTellerModel_store1_190 : decode b_RangeTellerModel_store1 190 = .ok (.aload_n 0, 1) := by decide +kernel
theorem d_RangeTellerModel_store1_191 : decode b_RangeTellerModel_store1 191 = .ok (.getfield 117, 3) := by decide +kernel
theorem d_RangeTellerModel_store1_194 : decode b_RangeTellerModel_store1 194 = .ok (.iload 8, 2) := by decide +kernel
theorem d_RangeTellerModel_store1_196 : decode b_RangeTellerModel_store1 196 = .ok (.aload_n 0, 1) := by decide +kernel
theorem d_RangeTellerModel_store1_197 : decode b_RangeTellerModel_store1 197 = .ok (.getfield 138, 3) := by decide +kernel
theorem d_RangeTellerModel_store1_200 : decode b_RangeTellerModel_store1 200 = .ok (.iload_n 2, 1) := by decide +kernel
theorem d_RangeTellerModel_store1_201 : decode b_RangeTellerModel_store1 201 = .ok (.iaload, 1) := by decide +kernel
theorem d_RangeTellerModel_store1_202 : decode b_RangeTellerModel_store1 202 = .ok (.aload_n 0, 1) := by decide +kernel
theorem d_RangeTellerModel_store1_203 : decode b_RangeTellerModel_store1 203 = .ok (.getfield 117, 3) := by decide +kernel
theorem d_RangeTellerModel_store1_206 : decode b_RangeTellerModel_store1 206 = .ok (.iload 8, 2) := by decide +kernel
theorem d_RangeTellerModel_store1_208 : decode b_RangeTellerModel_store1 208 = .ok (.iaload, 1) := by decide +kernel
theorem d_RangeTellerModel_store1_209 : decode b_RangeTellerModel_store1 209 = .ok (.if_icmp .le 12, 3) := by decide +kernel
theorem d_RangeTellerModel_store1_221 : decode b_RangeTellerModel_store1 221 = .ok (.aload_n 0, 1) := by decide +kernel
theorem d_RangeTellerModel_store1_222 : decode b_RangeTellerModel_store1 222 = .ok (.getfield 117, 3) := by decide +kernel
theorem d_RangeTellerModel_store1_225 : decode b_RangeTellerModel_store1 225 = .ok (.iload 8, 2) := by decide +kernel
theorem d_RangeTellerModel_store1_227 : decode b_RangeTellerModel_store1 227 = .ok (.iaload, 1) := by decide +kernel
theorem d_RangeTellerModel_store1_212 : decode b_RangeTellerModel_store1 212 = .ok (.aload_n 0, 1) := by decide +kernel
theorem d_RangeTellerModel_store1_213 : decode b_RangeTellerModel_store1 213 = .ok (.getfield 138, 3) := by decide +kernel
theorem d_RangeTellerModel_store1_216 : decode b_RangeTellerModel_store1 216 = .ok (.iload_n 2, 1) := by decide +kernel
theorem d_RangeTellerModel_store1_217 : decode b_RangeTellerModel_store1 217 = .ok (.iaload, 1) := by decide +kernel
theorem d_RangeTellerModel_store1_218 : decode b_RangeTellerModel_store1 218 = .ok (.goto 10, 3) := by decide +kernel
theorem d_RangeTellerModel_store1_149 : decode b_RangeTellerModel_store1 149 = .ok (.istore 6, 2) := by decide +kernel
theorem d_RangeTellerModel_store1_151 : decode b_RangeTellerModel_store1 151 = .ok (.aload_n 0, 1) := by decide +kernel
theorem d_RangeTellerModel_store1_152 : decode b_RangeTellerModel_store1 152 = .ok (.getfield 114, 3) := by decide +kernel
theorem d_RangeTellerModel_store1_155 : decode b_RangeTellerModel_store1 155 = .ok (.iload 8, 2) := by decide +kernel
theorem d_RangeTellerModel_store1_157 : decode b_RangeTellerModel_store1 157 = .ok (.aload_n 0, 1) := by decide +kernel
theorem d_RangeTellerModel_store1_158 : decode b_RangeTellerModel_store1 158 = .ok (.getfield 135, 3) := by decide +kernel
theorem d_RangeTellerModel_store1_161 : decode b_RangeTellerModel_store1 161 = .ok (.iload_n 2, 1) := by decide +kernel
theorem d_RangeTellerModel_store1_162 : decode b_RangeTellerModel_store1 162 = .ok (.iaload, 1) := by decide +kernel
theorem d_RangeTellerModel_store1_163 : decode b_RangeTellerModel_store1 163 = .ok (.aload_n 0, 1) := by decide +kernel
theorem d_RangeTellerModel_store1_164 : decode b_RangeTellerModel_store1 164 = .ok (.getfield 114, 3) := by decide +kernel
theorem d_RangeTellerModel_store1_167 : decode b_RangeTellerModel_store1 167 = .ok (.iload 8, 2) := by decide +kernel
theorem d_RangeTellerModel_store1_169 : decode b_RangeTellerModel_store1 169 = .ok (.iaload, 1) := by decide +kernel
theorem d_RangeTellerModel_store1_170 : decode b_RangeTellerModel_store1 170 = .ok (.if_icmp .ge 12, 3) := by decide +kernel
theorem d_RangeTellerModel_store1_182 : decode b_RangeTellerModel_store1 182 = .ok (.aload_n 0, 1) := by decide +kernel
theorem d_RangeTellerModel_store1_183 : decode b_RangeTellerModel_store1 183 = .ok (.getfield 114, 3) := by decide +kernel
theorem d_RangeTellerModel_store1_186 : decode b_RangeTellerModel_store1 186 = .ok (.iload 8, 2) := by decide +kernel
theorem d_RangeTellerModel_store1_188 : decode b_RangeTellerModel_store1 188 = .ok (.iaload, 1) := by decide +kernel
theorem d_RangeTellerModel_store1_173 : decode b_RangeTellerModel_store1 173 = .ok (.aload_n 0, 1) := by decide +kernel
theorem d_RangeTellerModel_store1_174 : decode b_RangeTellerModel_store1 174 = .ok (.getfield 135, 3) := by decide +kernel
theorem d_RangeTellerModel_store1_177 : decode b_RangeTellerModel_store1 177 = .ok (.iload_n 2, 1) := by decide +kernel
theorem d_RangeTellerModel_store1_178 : decode b_RangeTellerModel_store1 178 = .ok (.iaload, 1) := by decide +kernel
theorem d_RangeTellerModel_store1_179 : decode b_RangeTellerModel_store1 179 = .ok (.goto 10, 3) := by decide +kernel
theorem d_RangeTellerModel_store1_144 : decode b_RangeTellerModel_store1 144 = .ok (.iconst 1, 1) := by decide +kernel
theorem d_RangeTellerModel_store1_145 : decode b_RangeTellerModel_store1 145 = .ok (.goto 4, 3) := by decide +kernel
theorem d_RangeTellerModel_store1_148 : decode b_RangeTellerModel_store1 148 = .ok (.iconst 0, 1) := by decide +kernel
theorem d_RangeTellerModel_store1_53 : decode b_RangeTellerModel_store1 53 = .ok (.iload 7, 2) := by decide +kernel
theorem d_RangeTellerModel_store1_55 : decode b_RangeTellerModel_store1 55 = .ok (.aload_n 0, 1) := by decide +kernel
theorem d_RangeTellerModel_store1_56 : decode b_RangeTellerModel_store1 56 = .ok (.getfield 138, 3) := by decide +kernel
theorem d_RangeTellerModel_store1_59 : decode b_RangeTellerModel_store1 59 = .ok (.iload_n 3, 1) := by decide +kernel
theorem d_RangeTellerModel_store1_60 : decode b_RangeTellerModel_store1 60 = .ok (.iaload, 1) := by decide +kernel
theorem d_RangeTellerModel_store1_61 : decode b_RangeTellerModel_store1 61 = .ok (.if_icmp .gt 201, 3) := by decide +kernel
theorem d_RangeTellerModel_store1_64 : decode b_RangeTellerModel_store1 64 = .ok (.iload 7, 2) := by decide +kernel
theorem d_RangeTellerModel_store1_66 : decode b_RangeTellerModel_store1 66 = .ok (.aload_n 0, 1) := by decide +kernel
theorem d_RangeTellerModel_store1_67 : decode b_RangeTellerModel_store1 67 = .ok (.getfield 20, 3) := by decide +kernel
theorem d_RangeTellerModel_store1_70 : decode b_RangeTellerModel_store1 70 = .ok (.iload_n 1, 1) := by decide +kernel
theorem d_RangeTellerModel_store1_71 : decode b_RangeTellerModel_store1 71 = .ok (.iaload, 1) := by decide +kernel
theorem d_RangeTellerModel_store1_72 : decode b_RangeTellerModel_store1 72 = .ok (.iadd, 1) := by decide +kernel
theorem d_RangeTellerModel_store1_73 : decode b_RangeTellerModel_store1 73 = .ok (.bipush 16, 2) := by decide +kernel
theorem d_RangeTellerModel_store1_75 : decode b_RangeTellerModel_store1 75 = .ok (.if_icmp .ge 187, 3) := by decide +kernel
theorem d_RangeTellerModel_store1_78 : decode b_RangeTellerModel_store1 78 = .ok (.iload 7, 2) := by decide +kernel
theorem d_RangeTellerModel_store1_80 : decode b_RangeTellerModel_store1 80 = .ok (.aload_n 0, 1) := by decide +kernel
theorem d_RangeTellerModel_store1_81 : decode b_RangeTellerModel_store1 81 = .ok (.getfield 20, 3) := by decide +kernel
theorem d_RangeTellerModel_store1_84 : decode b_RangeTellerModel_store1 84 = .ok (.iload_n 1, 1) := by decide +kernel
theorem d_RangeTellerModel_store1_85 : decode b_RangeTellerModel_store1 85 = .ok (.iaload, 1) := by decide +kernel
theorem d_RangeTellerModel_store1_86 : decode b_RangeTellerModel_store1 86 = .ok (.iadd, 1) := by decide +kernel
theorem d_RangeTellerModel_store1_87 : decode b_RangeTellerModel_store1 87 = .ok (.istore 8, 2) := by decide +kernel
theorem d_RangeTellerModel_store1_89 : decode b_RangeTellerModel_store1 89 = .ok (.iconst 1, 1) := by decide +kernel
theorem d_RangeTellerModel_store1_90 : decode b_RangeTellerModel_store1 90 = .ok (.istore 5, 2) := by decide +kernel
theorem d_RangeTellerModel_store1_92 : decode b_RangeTellerModel_store1 92 = .ok (.iload 6, 2) := by decide +kernel
theorem d_RangeTellerModel_store1_94 : decode b_RangeTellerModel_store1 94 = .ok (.ifCond .ne 50, 3) := by decide +kernel
theorem d_RangeTellerModel_store1_97 : decode b_RangeTellerModel_store1 97 = .ok (.aload_n 0, 1) := by decide +kernel
theorem d_RangeTellerModel_store1_98 : decode b_RangeTellerModel_store1 98 = .ok (.getfield 135, 3) := by decide +kernel
theorem d_RangeTellerModel_store1_101 : decode b_RangeTellerModel_store1 101 = .ok (.iload_n 2, 1) := by decide +kernel
theorem d_RangeTellerModel_store1_102 : decode b_RangeTellerModel_store1 102 = .ok (.iaload, 1) := by decide +kernel
theorem d_RangeTellerModel_store1_103 : decode b_RangeTellerModel_store1 103 = .ok (.aload_n 0, 1) := by decide +kernel
theorem d_RangeTellerModel_store1_104 : decode b_RangeTellerModel_store1 104 = .ok (.getfield 114, 3) := by decide +kernel
theorem d_RangeTellerModel_store1_107 : decode b_RangeTellerModel_store1 107 = .ok (.iload 8, 2) := by decide +kernel
theorem d_RangeTellerModel_store1_109 : decode b_RangeTellerModel_store1 109 = .ok (.iaload, 1) := by decide +kernel
theorem d_RangeTellerModel_store1_110 : decode b_RangeTellerModel_store1 110 = .ok (.if_icmp .lt 34, 3) := by decide +kernel
theorem d_RangeTellerModel_store1_113 : decode b_RangeTellerModel_store1 113 = .ok (.aload_n 0, 1) := by decide +kernel
theorem d_RangeTellerModel_store1_114 : decode b_RangeTellerModel_store1 114 = .ok (.getfield 138, 3) := by decide +kernel
theorem d_RangeTellerModel_store1_117 : decode b_RangeTellerModel_store1 117 = .ok (.iload_n 2, 1) := by decide +kernel
theorem d_RangeTellerModel_store1_118 : decode b_RangeTellerModel_store1 118 = .ok (.iaload, 1) := by decide +kernel
theorem d_RangeTellerModel_store1_119 : decode b_RangeTellerModel_store1 119 = .ok (.aload_n 0, 1) := by decide +kernel
theorem d_RangeTellerModel_store1_120 : decode b_RangeTellerModel_store1 120 = .ok (.getfield 117, 3) := by decide +kernel
theorem d_RangeTellerModel_store1_123 : decode b_RangeTellerModel_store1 123 = .ok (.iload 8, 2) := by decide +kernel
theorem d_RangeTellerModel_store1_125 : decode b_RangeTellerModel_store1 125 = .ok (.iaload, 1) := by decide +kernel
theorem d_RangeTellerModel_store1_126 : decode b_RangeTellerModel_store1 126 = .ok (.if_icmp .gt 18, 3) := by decide +kernel
theorem d_RangeTellerModel_store1_129 : decode b_RangeTellerModel_store1 129 = .ok (.iload 4, 2) := by decide +kernel
theorem d_RangeTellerModel_store1_131 : decode b_RangeTellerModel_store1 131 = .ok (.ifCond .eq 17, 3) := by decide +kernel
theorem d_RangeTellerModel_store1_134 : decode b_RangeTellerModel_store1 134 = .ok (.aload_n 0, 1) := by decide +kernel
theorem d_RangeTellerModel_store1_135 : decode b_RangeTellerModel_store1 135 = .ok (.getfield 120, 3) := by decide +kernel
theorem d_RangeTellerModel_store1_138 : decode b_RangeTellerModel_store1 138 = .ok (.iload 8, 2) := by decide +kernel
theorem d_RangeTellerModel_store1_140 : decode b_RangeTellerModel_store1 140 = .ok (.baload, 1) := by decide +kernel
theorem d_RangeTellerModel_store1_141 : decode b_RangeTellerModel_store1 141 = .ok (.ifCond .ne 7, 3) := by decide +kernel
theorem d_RangeTellerModel_store1_37 : decode b_RangeTellerModel_store1 37 = .ok (.istore 4, 2) := by decide +kernel
theorem d_RangeTellerModel_store1_39 : decode b_RangeTellerModel_store1 39 = .ok (.iconst 0, 1) := by decide +kernel
theorem d_RangeTellerModel_store1_40 : decode b_RangeTellerModel_store1 40 = .ok (.istore 5, 2) := by decide +kernel
theorem d_RangeTellerModel_store1_42 : decode b_RangeTellerModel_store1 42 = .ok (.iconst 0, 1) := by decide +kernel
theorem d_RangeTellerModel_store1_43 : decode b_RangeTellerModel_store1 43 = .ok (.istore 6, 2) := by decide +kernel
theorem d_RangeTellerModel_store1_45 : decode b_RangeTellerModel_store1 45 = .ok (.aload_n 0, 1) := by decide +kernel
theorem d_RangeTellerModel_store1_46 : decode b_RangeTellerModel_store1 46 = .ok (.getfield 135, 3) := by decide +kernel
theorem d_RangeTellerModel_store1_49 : decode b_RangeTellerModel_store1 49 = .ok (.iload_n 3, 1) := by decide +kernel
theorem d_RangeTellerModel_store1_50 : decode b_RangeTellerModel_store1 50 = .ok (.iaload, 1) := by decide +kernel
theorem d_RangeTellerModel_store1_51 : decode b_RangeTellerModel_store1 51 = .ok (.istore 7, 2) := by decide +kernel
theorem d_RangeTellerModel_store1_32 : decode b_RangeTellerModel_store1 32 = .ok (.iconst 1, 1) := by decide +kernel
theorem d_RangeTellerModel_store1_33 : decode b_RangeTellerModel_store1 33 = .ok (.goto 4, 3) := by decide +kernel
theorem d_RangeTellerModel_store1_0 : decode b_RangeTellerModel_store1 0 = .ok (.aload_n 0, 1) := by decide +kernel
theorem d_RangeTellerModel_store1_1 : decode b_RangeTellerModel_store1 1 = .ok (.getfield 294, 3) := by decide +kernel
theorem d_RangeTellerModel_store1_4 : decode b_RangeTellerModel_store1 4 = .ok (.iconst 1, 1) := by decide +kernel
theorem d_RangeTellerModel_store1_5 : decode b_RangeTellerModel_store1 5 = .ok (.isub, 1) := by decide +kernel
theorem d_RangeTellerModel_store1_6 : decode b_RangeTellerModel_store1 6 = .ok (.istore_n 2, 1) := by decide +kernel
theorem d_RangeTellerModel_store1_7 : decode b_RangeTellerModel_store1 7 = .ok (.aload_n 0, 1) := by decide +kernel
theorem d_RangeTellerModel_store1_8 : decode b_RangeTellerModel_store1 8 = .ok (.getfield 294, 3) := by decide +kernel
theorem d_RangeTellerModel_store1_11 : decode b_RangeTellerModel_store1 11 = .ok (.iconst 2, 1) := by decide +kernel
theorem d_RangeTellerModel_store1_12 : decode b_RangeTellerModel_store1 12 = .ok (.isub, 1) := by decide +kernel
theorem d_RangeTellerModel_store1_13 : decode b_RangeTellerModel_store1 13 = .ok (.istore_n 3, 1) := by decide +kernel
theorem d_RangeTellerModel_store1_14 : decode b_RangeTellerModel_store1 14 = .ok (.aload_n 0, 1) := by decide +kernel
theorem d_RangeTellerModel_store1_15 : decode b_RangeTellerModel_store1 15 = .ok (.getfield 141, 3) := by decide +kernel
theorem d_RangeTellerModel_store1_18 : decode b_RangeTellerModel_store1 18 = .ok (.iload_n 2, 1) := by decide +kernel
theorem d_RangeTellerModel_store1_19 : decode b_RangeTellerModel_store1 19 = .ok (.baload, 1) := by decide +kernel
theorem d_RangeTellerModel_store1_20 : decode b_RangeTellerModel_store1 20 = .ok (.ifCond .ne 12, 3) := by decide +kernel
theorem d_RangeTellerModel_store1_23 : decode b_RangeTellerModel_store1 23 = .ok (.aload_n 0, 1) := by decide +kernel
theorem d_RangeTellerModel_store1_24 : decode b_RangeTellerModel_store1 24 = .ok (.getfield 141, 3) := by decide +kernel
theorem d_RangeTellerModel_store1_27 : decode b_RangeTellerModel_store1 27 = .ok (.iload_n 3, 1) := by decide +kernel
theorem d_RangeTellerModel_store1_28 : decode b_RangeTellerModel_store1 28 = .ok (.baload, 1) := by decide +kernel
theorem d_RangeTellerModel_store1_29 : decode b_RangeTellerModel_store1 29 = .ok (.ifCond .eq 7, 3) := by decide +kernel
theorem d_RangeTellerModel_store1_36 : decode b_RangeTellerModel_store1 36 = .ok (.iconst 0, 1) := by decide +kernel
theorem d_RangeTellerModel_load1_107 : decode b_RangeTellerModel_load1 107 = .ok (.aload_n 0, 1) := by decide +kernel
theorem d_RangeTellerModel_load1_108 : decode b_RangeTellerModel_load1 108 = .ok (.getfield 297, 3) := by decide +kernel
theorem d_RangeTellerModel_load1_111 : decode b_RangeTellerModel_load1 111 = .ok (.aload_n 0, 1) := by decide +kernel
theorem d_RangeTellerModel_load1_112 : decode b_RangeTellerModel_load1 112 = .ok (.getfield 300, 3) := by decide +kernel
theorem d_RangeTellerModel_load1_115 : decode b_RangeTellerModel_load1 115 = .ok (.if_icmp .le 4, 3) := by decide +kernel
theorem d_RangeTellerModel_load1_119 : decode b_RangeTellerModel_load1 119 = .ok (.aload_n 0, 1) := by decide +kernel
theorem d_RangeTellerModel_load1_120 : decode b_RangeTellerModel_load1 120 = .ok (.iload_n 2, 1) := by decide +kernel
theorem d_RangeTellerModel_load1_121 : decode b_RangeTellerModel_load1 121 = .ok (.aload_n 0, 1) := by decide +kernel
theorem d_RangeTellerModel_load1_122 : decode b_RangeTellerModel_load1 122 = .ok (.getfield 297, 3) := by decide +kernel
theorem d_RangeTellerModel_load1_125 : decode b_RangeTellerModel_load1 125 = .ok (.aload_n 0, 1) := by decide +kernel
theorem d_RangeTellerModel_load1_126 : decode b_RangeTellerModel_load1 126 = .ok (.getfield 300, 3) := by decide +kernel
theorem d_RangeTellerModel_load1_129 : decode b_RangeTellerModel_load1 129 = .ok (.aload_n 0, 1) := by decide +kernel
theorem d_RangeTellerModel_load1_130 : decode b_RangeTellerModel_load1 130 = .ok (.getfield 303, 3) := by decide +kernel
theorem d_RangeTellerModel_load1_133 : decode b_RangeTellerModel_load1 133 = .ok (.invokevirtual 319, 3) := by decide +kernel
theorem d_RangeTellerModel_load1_136 : decode b_RangeTellerModel_load1 136 = .ok (.aload_n 0, 1) := by decide +kernel
theorem d_RangeTellerModel_load1_137 : decode b_RangeTellerModel_load1 137 = .ok (.iload_n 1, 1) := by decide +kernel
theorem d_RangeTellerModel_load1_138 : decode b_RangeTellerModel_load1 138 = .ok (.iconst 1, 1) := by decide +kernel
theorem d_RangeTellerModel_load1_139 : decode b_RangeTellerModel_load1 139 = .ok (.iadd, 1) := by decide +kernel
theorem d_RangeTellerModel_load1_140 : decode b_RangeTellerModel_load1 140 = .ok (.invokevirtual 323, 3) := by decide +kernel
theorem d_RangeTellerModel_load1_143 : decode b_RangeTellerModel_load1 143 = .ok (.return_, 1) := by decide +kernel
theorem d_RangeTellerModel_load1_118 : decode b_RangeTellerModel_load1 118 = .ok (.return_, 1) := by decide +kernel
theorem d_RangeTellerModel_load1_98 : decode b_RangeTellerModel_load1 98 = .ok (.putfield 303, 3) := by decide +kernel
theorem d_RangeTellerModel_load1_101 : decode b_RangeTellerModel_load1 101 = .ok (.iinc 3 1, 3) := by decide +kernel
theorem d_RangeTellerModel_load1_104 : decode b_RangeTellerModel_load1 104 = .ok (.goto (-80), 3) := by decide +kernel
theorem d_RangeTellerModel_load1_93 : decode b_RangeTellerModel_load1 93 = .ok (.iconst 1, 1) := by decide +kernel
theorem d_RangeTellerModel_load1_94 : decode b_RangeTellerModel_load1 94 = .ok (.goto 4, 3) := by decide +kernel
theorem d_RangeTellerModel_load1_24 : decode b_RangeTellerModel_load1 24 = .ok (.iload_n 3, 1) := by decide +kernel
theorem d_RangeTellerModel_load1_25 : decode b_RangeTellerModel_load1 25 = .ok (.aload_n 0, 1) := by decide +kernel
theorem d_RangeTellerModel_load1_26 : decode b_RangeTellerModel_load1 26 = .ok (.getfield 138, 3) := by decide +kernel
theorem d_RangeTellerModel_load1_29 : decode b_RangeTellerModel_load1 29 = .ok (.iload_n 2, 1) := by decide +kernel
theorem d_RangeTellerModel_load1_30 : decode b_RangeTellerModel_load1 30 = .ok (.iaload, 1) := by decide +kernel
theorem d_RangeTellerModel_load1_31 : decode b_RangeTellerModel_load1 31 = .ok (.if_icmp .gt 76, 3) := by decide +kernel
theorem d_RangeTellerModel_load1_34 : decode b_RangeTellerModel_load1 34 = .ok (.iload_n 3, 1) := by decide +kernel
theorem d_RangeTellerModel_load1_35 : decode b_RangeTellerModel_load1 35 = .ok (.aload_n 0, 1) := by decide +kernel
theorem d_RangeTellerModel_load1_36 : decode b_RangeTellerModel_load1 36 = .ok (.getfield 20, 3) := by decide +kernel
theorem d_RangeTellerModel_load1_39 : decode b_RangeTellerModel_load1 39 = .ok (.iload_n 1, 1) := by decide +kernel
theorem d_RangeTellerModel_load1_40 : decode b_RangeTellerModel_load1 40 = .ok (.iaload, 1) := by decide +kernel
theorem d_RangeTellerModel_load1_41 : decode b_RangeTellerModel_load1 41 = .ok (.iadd, 1) := by decide +kernel
theorem d_RangeTellerModel_load1_42 : decode b_RangeTellerModel_load1 42 = .ok (.bipush 16, 2) := by decide +kernel
theorem d_RangeTellerModel_load1_44 : decode b_RangeTellerModel_load1 44 = .ok (.if_icmp .ge 63, 3) := by decide +kernel
theorem d_RangeTellerModel_load1_47 : decode b_RangeTellerModel_load1 47 = .ok (.iload_n 3, 1) := by decide +kernel
theorem d_RangeTellerModel_load1_48 : decode b_RangeTellerModel_load1 48 = .ok (.aload_n 0, 1) := by decide +kernel
theorem d_RangeTellerModel_load1_49 : decode b_RangeTellerModel_load1 49 = .ok (.getfield 20, 3) := by decide +kernel
theorem d_RangeTellerModel_load1_52 : decode b_RangeTellerModel_load1 52 = .ok (.iload_n 1, 1) := by decide +kernel
theorem d_RangeTellerModel_load1_53 : decode b_RangeTellerModel_load1 53 = .ok (.iaload, 1) := by decide +kernel
theorem d_RangeTellerModel_load1_54 : decode b_RangeTellerModel_load1 54 = .ok (.iadd, 1) := by decide +kernel
theorem d_RangeTellerModel_load1_55 : decode b_RangeTellerModel_load1 55 = .ok (.istore 4, 2) := by decide +kernel
theorem d_RangeTellerModel_load1_57 : decode b_RangeTellerModel_load1 57 = .ok (.aload_n 0, 1) := by decide +kernel
theorem d_RangeTellerModel_load1_58 : decode b_RangeTellerModel_load1 58 = .ok (.aload_n 0, 1) := by decide +kernel
theorem d_RangeTellerModel_load1_59 : decode b_RangeTellerModel_load1 59 = .ok (.getfield 114, 3) := by decide +kernel
theorem d_RangeTellerModel_load1_62 : decode b_RangeTellerModel_load1 62 = .ok (.iload 4, 2) := by decide +kernel
theorem d_RangeTellerModel_load1_64 : decode b_RangeTellerModel_load1 64 = .ok (.iaload, 1) := by decide +kernel
theorem d_RangeTellerModel_load1_65 : decode b_RangeTellerModel_load1 65 = .ok (.aload_n 0, 1) := by decide +kernel
theorem d_RangeTellerModel_load1_66 : decode b_RangeTellerModel_load1 66 = .ok (.getfield 117, 3) := by decide +kernel
theorem d_RangeTellerModel_load1_69 : decode b_RangeTellerModel_load1 69 = .ok (.iload 4, 2) := by decide +kernel
theorem d_RangeTellerModel_load1_71 : decode b_RangeTellerModel_load1 71 = .ok (.iaload, 1) := by decide +kernel
theorem d_RangeTellerModel_load1_72 : decode b_RangeTellerModel_load1 72 = .ok (.invokevirtual 310, 3) := by decide +kernel
theorem d_RangeTellerModel_load1_75 : decode b_RangeTellerModel_load1 75 = .ok (.aload_n 0, 1) := by decide +kernel
theorem d_RangeTellerModel_load1_76 : decode b_RangeTellerModel_load1 76 = .ok (.aload_n 0, 1) := by decide +kernel
theorem d_RangeTellerModel_load1_77 : decode b_RangeTellerModel_load1 77 = .ok (.getfield 303, 3) := by decide +kernel
theorem d_RangeTellerModel_load1_80 : decode b_RangeTellerModel_load1 80 = .ok (.ifCond .ne 13, 3) := by decide +kernel
theorem d_RangeTellerModel_load1_83 : decode b_RangeTellerModel_load1 83 = .ok (.aload_n 0, 1) := by decide +kernel
theorem d_RangeTellerModel_load1_84 : decode b_RangeTellerModel_load1 84 = .ok (.getfield 120, 3) := by decide +kernel
theorem d_RangeTellerModel_load1_87 : decode b_RangeTellerModel_load1 87 = .ok (.iload 4, 2) := by decide +kernel
theorem d_RangeTellerModel_load1_89 : decode b_RangeTellerModel_load1 89 = .ok (.baload, 1) := by decide +kernel
theorem d_RangeTellerModel_load1_90 : decode b_RangeTellerModel_load1 90 = .ok (.ifCond .eq 7, 3) := by decide +kernel
theorem d_RangeTellerModel_load1_97 : decode b_RangeTellerModel_load1 97 = .ok (.iconst 0, 1) := by decide +kernel
theorem d_RangeTellerModel_load1_0 : decode b_RangeTellerModel_load1 0 = .ok (.aload_n 0, 1) := by decide +kernel
theorem d_RangeTellerModel_load1_1 : decode b_RangeTellerModel_load1 1 = .ok (.getfield 294, 3) := by decide +kernel
theorem d_RangeTellerModel_load1_4 : decode b_RangeTellerModel_load1 4 = .ok (.iconst 1, 1) := by decide +kernel
theorem d_RangeTellerModel_load1_5 : decode b_RangeTellerModel_load1 5 = .ok (.isub, 1) := by decide +kernel
theorem d_RangeTellerModel_load1_6 : decode b_RangeTellerModel_load1 6 = .ok (.istore_n 2, 1) := by decide +kernel
theorem d_RangeTellerModel_load1_7 : decode b_RangeTellerModel_load1 7 = .ok (.aload_n 0, 1) := by decide +kernel
theorem d_RangeTellerModel_load1_8 : decode b_RangeTellerModel_load1 8 = .ok (.aload_n 0, 1) := by decide +kernel
theorem d_RangeTellerModel_load1_9 : decode b_RangeTellerModel_load1 9 = .ok (.getfield 141, 3) := by decide +kernel
theorem d_RangeTellerModel_load1_12 : decode b_RangeTellerModel_load1 12 = .ok (.iload_n 2, 1) := by decide +kernel
theorem d_RangeTellerModel_load1_13 : decode b_RangeTellerModel_load1 13 = .ok (.baload, 1) := by decide +kernel
theorem d_RangeTellerModel_load1_14 : decode b_RangeTellerModel_load1 14 = .ok (.invokevirtual 306, 3) := by decide +kernel
theorem d_RangeTellerModel_load1_17 : decode b_RangeTellerModel_load1 17 = .ok (.aload_n 0, 1) := by decide +kernel
theorem d_RangeTellerModel_load1_18 : decode b_RangeTellerModel_load1 18 = .ok (.getfield 135, 3) := by decide +kernel
theorem d_RangeTellerModel_load1_21 : decode b_RangeTellerModel_load1 21 = .ok (.iload_n 2, 1) := by decide +kernel
theorem d_RangeTellerModel_load1_22 : decode b_RangeTellerModel_load1 22 = .ok (.iaload, 1) := by decide +kernel
theorem d_RangeTellerModel_load1_23 : decode b_RangeTellerModel_load1 23 = .ok (.istore_n 3, 1) := by decide +kernel
theorem d_RangeTellerModel_passCall_209 : decode b_RangeTellerModel_passCall 209 = .ok (.aload_n 0, 1) := by decide +kernel
theorem d_RangeTellerModel_passCall_210 : decode b_RangeTellerModel_passCall 210 = .ok (.iload_n 1, 1) := by decide +kernel
theorem d_RangeTellerModel_passCall_211 : decode b_RangeTellerModel_passCall 211 = .ok (.iconst 1, 1) := by decide +kernel
theorem d_RangeTellerModel_passCall_212 : decode b_RangeTellerModel_passCall 212 = .ok (.iadd, 1) := by decide +kernel
theorem d_RangeTellerModel_passCall_213 : decode b_RangeTellerModel_passCall 213 = .ok (.invokevirtual 323, 3) := by decide +kernel
theorem d_RangeTellerModel_passCall_216 : decode b_RangeTellerModel_passCall 216 = .ok (.return_, 1) := by decide +kernel
theorem d_RangeTellerModel_passCall_125 : decode b_RangeTellerModel_passCall 125 = .ok (.bastore, 1) := by decide +kernel
theorem d_RangeTellerModel_passCall_126 : decode b_RangeTellerModel_passCall 126 = .ok (.iinc 5 1, 3) := by decide +kernel
theorem d_RangeTellerModel_passCall_129 : decode b_RangeTellerModel_passCall 129 = .ok (.goto (-104), 3) := by decide +kernel
theorem d_RangeTellerModel_passCall_124 : decode b_RangeTellerModel_passCall 124 = .ok (.iconst 0, 1) := by decide +kernel
theorem d_RangeTellerModel_passCall_95 : decode b_RangeTellerModel_passCall 95 = .ok (.iastore, 1) := by decide +kernel
theorem d_RangeTellerModel_passCall_96 : decode b_RangeTellerModel_passCall 96 = .ok (.aload_n 0, 1) := by decide +kernel
theorem d_RangeTellerModel_passCall_97 : decode b_RangeTellerModel_passCall 97 = .ok (.getfield 150, 3) := by decide +kernel
theorem d_RangeTellerModel_passCall_100 : decode b_RangeTellerModel_passCall 100 = .ok (.iload 5, 2) := by decide +kernel
theorem d_RangeTellerModel_passCall_102 : decode b_RangeTellerModel_passCall 102 = .ok (.iload 6, 2) := by decide +kernel
theorem d_RangeTellerModel_passCall_104 : decode b_RangeTellerModel_passCall 104 = .ok (.ifCond .eq 20, 3) := by decide +kernel
theorem d_RangeTellerModel_passCall_107 : decode b_RangeTellerModel_passCall 107 = .ok (.aload_n 0, 1) := by decide +kernel
theorem d_RangeTellerModel_passCall_108 : decode b_RangeTellerModel_passCall 108 = .ok (.getfield 141, 3) := by decide +kernel
theorem d_RangeTellerModel_passCall_111 : decode b_RangeTellerModel_passCall 111 = .ok (.iload 4, 2) := by decide +kernel
theorem d_RangeTellerModel_passCall_113 : decode b_RangeTellerModel_passCall 113 = .ok (.iload 5, 2) := by decide +kernel
theorem d_RangeTellerModel_passCall_115 : decode b_RangeTellerModel_passCall 115 = .ok (.iadd, 1) := by decide +kernel
theorem d_RangeTellerModel_passCall_116 : decode b_RangeTellerModel_passCall 116 = .ok (.baload, 1) := by decide +kernel
theorem d_RangeTellerModel_passCall_117 : decode b_RangeTellerModel_passCall 117 = .ok (.ifCond .eq 7, 3) := by decide +kernel
theorem d_RangeTellerModel_passCall_120 : decode b_RangeTellerModel_passCall 120 = .ok (.iconst 1, 1) := by decide +kernel
theorem d_RangeTellerModel_passCall_121 : decode b_RangeTellerModel_passCall 121 = .ok (.goto 4, 3) := by decide +kernel
theorem d_RangeTellerModel_passCall_69 : decode b_RangeTellerModel_passCall 69 = .ok (.iastore, 1) := by decide +kernel
theorem d_RangeTellerModel_passCall_70 : decode b_RangeTellerModel_passCall 70 = .ok (.aload_n 0, 1) := by decide +kernel
theorem d_RangeTellerModel_passCall_71 : decode b_RangeTellerModel_passCall 71 = .ok (.getfield 147, 3) := by decide +kernel
theorem d_RangeTellerModel_passCall_74 : decode b_RangeTellerModel_passCall 74 = .ok (.iload 5, 2) := by decide +kernel
theorem d_RangeTellerModel_passCall_76 : decode b_RangeTellerModel_passCall 76 = .ok (.iload 6, 2) := by decide +kernel
theorem d_RangeTellerModel_passCall_78 : decode b_RangeTellerModel_passCall 78 = .ok (.ifCond .eq 16, 3) := by decide +kernel
theorem d_RangeTellerModel_passCall_94 : decode b_RangeTellerModel_passCall 94 = .ok (.iconst 0, 1) := by decide +kernel
theorem d_RangeTellerModel_passCall_81 : decode b_RangeTellerModel_passCall 81 = .ok (.aload_n 0, 1) := by decide +kernel
theorem d_RangeTellerModel_passCall_82 : decode b_RangeTellerModel_passCall 82 = .ok (.getfield 138, 3) := by decide +kernel
theorem d_RangeTellerModel_passCall_85 : decode b_RangeTellerModel_passCall 85 = .ok (.iload 4, 2) := by decide +kernel
theorem d_RangeTellerModel_passCall_87 : decode b_RangeTellerModel_passCall 87 = .ok (.iload 5, 2) := by decide +kernel
theorem d_RangeTellerModel_passCall_89 : decode b_RangeTellerModel_passCall 89 = .ok (.iadd, 1) := by decide +kernel
theorem d_RangeTellerModel_passCall_90 : decode b_RangeTellerModel_passCall 90 = .ok (.iaload, 1) := by decide +kernel
theorem d_RangeTellerModel_passCall_91 : decode b_RangeTellerModel_passCall 91 = .ok (.goto 4, 3) := by decide +kernel
theorem d_RangeTellerModel_passCall_42 : decode b_RangeTellerModel_passCall 42 = .ok (.istore 6, 2) := by decide +kernel
theorem d_RangeTellerModel_passCall_44 : decode b_RangeTellerModel_passCall 44 = .ok (.aload_n 0, 1) := by decide +kernel
theorem d_RangeTellerModel_passCall_45 : decode b_RangeTellerModel_passCall 45 = .ok (.getfield 144, 3) := by decide +kernel
theorem d_RangeTellerModel_passCall_48 : decode b_RangeTellerModel_passCall 48 = .ok (.iload 5, 2) := by decide +kernel
theorem d_RangeTellerModel_passCall_50 : decode b_RangeTellerModel_passCall 50 = .ok (.iload 6, 2) := by decide +kernel
theorem d_RangeTellerModel_passCall_52 : decode b_RangeTellerModel_passCall 52 = .ok (.ifCond .eq 16, 3) := by decide +kernel
theorem d_RangeTellerModel_passCall_68 : decode b_RangeTellerModel_passCall 68 = .ok (.iconst 0, 1) := by decide +kernel
theorem d_RangeTellerModel_passCall_55 : decode b_RangeTellerModel_passCall 55 = .ok (.aload_n 0, 1) := by decide +kernel
theorem d_RangeTellerModel_passCall_56 : decode b_RangeTellerModel_passCall 56 = .ok (.getfield 135, 3) := by decide +kernel
theorem d_RangeTellerModel_passCall_59 : decode b_RangeTellerModel_passCall 59 = .ok (.iload 4, 2) := by decide +kernel
theorem d_RangeTellerModel_passCall_61 : decode b_RangeTellerModel_passCall 61 = .ok (.iload 5, 2) := by decide +kernel
theorem d_RangeTellerModel_passCall_63 : decode b_RangeTellerModel_passCall 63 = .ok (.iadd, 1) := by decide +kernel
theorem d_RangeTellerModel_passCall_64 : decode b_RangeTellerModel_passCall 64 = .ok (.iaload, 1) := by decide +kernel
theorem d_RangeTellerModel_passCall_65 : decode b_RangeTellerModel_passCall 65 = .ok (.goto 4, 3) := by decide +kernel
theorem d_RangeTellerModel_passCall_25 : decode b_RangeTellerModel_passCall 25 = .ok (.iload 5, 2) := by decide +kernel
theorem d_RangeTellerModel_passCall_27 : decode b_RangeTellerModel_passCall 27 = .ok (.iconst 4, 1) := by decide +kernel
theorem d_RangeTellerModel_passCall_28 : decode b_RangeTellerModel_passCall 28 = .ok (.if_icmp .ge 104, 3) := by decide +kernel
theorem d_RangeTellerModel_passCall_132 : decode b_RangeTellerModel_passCall 132 = .ok (.aload_n 0, 1) := by decide +kernel
theorem d_RangeTellerModel_passCall_133 : decode b_RangeTellerModel_passCall 133 = .ok (.aload_n 0, 1) := by decide +kernel
theorem d_RangeTellerModel_passCall_134 : decode b_RangeTellerModel_passCall 134 = .ok (.getfield 53, 3) := by decide +kernel
theorem d_RangeTellerModel_passCall_137 : decode b_RangeTellerModel_passCall 137 = .ok (.iload_n 2, 1) := by decide +kernel
theorem d_RangeTellerModel_passCall_138 : decode b_RangeTellerModel_passCall 138 = .ok (.iaload, 1) := by decide +kernel
theorem d_RangeTellerModel_passCall_139 : decode b_RangeTellerModel_passCall 139 = .ok (.invokevirtual 323, 3) := by decide +kernel
theorem d_RangeTellerModel_passCall_142 : decode b_RangeTellerModel_passCall 142 = .ok (.aload_n 0, 1) := by decide +kernel
theorem d_RangeTellerModel_passCall_143 : decode b_RangeTellerModel_passCall 143 = .ok (.iload_n 1, 1) := by decide +kernel
theorem d_RangeTellerModel_passCall_144 : decode b_RangeTellerModel_passCall 144 = .ok (.invokevirtual 326, 3) := by decide +kernel
theorem d_RangeTellerModel_passCall_147 : decode b_RangeTellerModel_passCall 147 = .ok (.aload_n 0, 1) := by decide +kernel
theorem d_RangeTellerModel_passCall_148 : decode b_RangeTellerModel_passCall 148 = .ok (.iload 4, 2) := by decide +kernel
theorem d_RangeTellerModel_passCall_150 : decode b_RangeTellerModel_passCall 150 = .ok (.putfield 294, 3) := by decide +kernel
theorem d_RangeTellerModel_passCall_153 : decode b_RangeTellerModel_passCall 153 = .ok (.aload_n 0, 1) := by decide +kernel
theorem d_RangeTellerModel_passCall_154 : decode b_RangeTellerModel_passCall 154 = .ok (.getfield 132, 3) := by decide +kernel
theorem d_RangeTellerModel_passCall_157 : decode b_RangeTellerModel_passCall 157 = .ok (.iload_n 2, 1) := by decide +kernel
theorem d_RangeTellerModel_passCall_158 : decode b_RangeTellerModel_passCall 158 = .ok (.baload, 1) := by decide +kernel
theorem d_RangeTellerModel_passCall_159 : decode b_RangeTellerModel_passCall 159 = .ok (.ifCond .ne 4, 3) := by decide +kernel
theorem d_RangeTellerModel_passCall_163 : decode b_RangeTellerModel_passCall 163 = .ok (.aload_n 0, 1) := by decide +kernel
theorem d_RangeTellerModel_passCall_164 : decode b_RangeTellerModel_passCall 164 = .ok (.getfield 50, 3) := by decide +kernel
theorem d_RangeTellerModel_passCall_167 : decode b_RangeTellerModel_passCall 167 = .ok (.iload_n 2, 1) := by decide +kernel
theorem d_RangeTellerModel_passCall_168 : decode b_RangeTellerModel_passCall 168 = .ok (.iaload, 1) := by decide +kernel
theorem d_RangeTellerModel_passCall_169 : decode b_RangeTellerModel_passCall 169 = .ok (.iconst 1, 1) := by decide +kernel
theorem d_RangeTellerModel_passCall_170 : decode b_RangeTellerModel_passCall 170 = .ok (.if_icmp .ne 39, 3) := by decide +kernel
theorem d_RangeTellerModel_passCall_173 : decode b_RangeTellerModel_passCall 173 = .ok (.aload_n 0, 1) := by decide +kernel
theorem d_RangeTellerModel_passCall_174 : decode b_RangeTellerModel_passCall 174 = .ok (.aload_n 0, 1) := by decide +kernel
theorem d_RangeTellerModel_passCall_175 : decode b_RangeTellerModel_passCall 175 = .ok (.getfield 294, 3) := by decide +kernel
theorem d_RangeTellerModel_passCall_178 : decode b_RangeTellerModel_passCall 178 = .ok (.aload_n 0, 1) := by decide +kernel
theorem d_RangeTellerModel_passCall_179 : decode b_RangeTellerModel_passCall 179 = .ok (.getfield 123, 3) := by decide +kernel
theorem d_RangeTellerModel_passCall_182 : decode b_RangeTellerModel_passCall 182 = .ok (.iload_n 2, 1) := by decide +kernel
theorem d_RangeTellerModel_passCall_183 : decode b_RangeTellerModel_passCall 183 = .ok (.iaload, 1) := by decide +kernel
theorem d_RangeTellerModel_passCall_184 : decode b_RangeTellerModel_passCall 184 = .ok (.aload_n 0, 1) := by decide +kernel
theorem d_RangeTellerModel_passCall_185 : decode b_RangeTellerModel_passCall 185 = .ok (.getfield 126, 3) := by decide +kernel
theorem d_RangeTellerModel_passCall_188 : decode b_RangeTellerModel_passCall 188 = .ok (.iload_n 2, 1) := by decide +kernel
theorem d_RangeTellerModel_passCall_189 : decode b_RangeTellerModel_passCall 189 = .ok (.iaload, 1) := by decide +kernel
theorem d_RangeTellerModel_passCall_190 : decode b_RangeTellerModel_passCall 190 = .ok (.aload_n 0, 1) := by decide +kernel
theorem d_RangeTellerModel_passCall_191 : decode b_RangeTellerModel_passCall 191 = .ok (.getfield 129, 3) := by decide +kernel
theorem d_RangeTellerModel_passCall_194 : decode b_RangeTellerModel_passCall 194 = .ok (.iload_n 2, 1) := by decide +kernel
theorem d_RangeTellerModel_passCall_195 : decode b_RangeTellerModel_passCall 195 = .ok (.baload, 1) := by decide +kernel
theorem d_RangeTellerModel_passCall_196 : decode b_RangeTellerModel_passCall 196 = .ok (.invokevirtual 319, 3) := by decide +kernel
theorem d_RangeTellerModel_passCall_199 : decode b_RangeTellerModel_passCall 199 = .ok (.aload_n 0, 1) := by decide +kernel
theorem d_RangeTellerModel_passCall_200 : decode b_RangeTellerModel_passCall 200 = .ok (.dup, 1) := by decide +kernel
theorem d_RangeTellerModel_passCall_201 : decode b_RangeTellerModel_passCall 201 = .ok (.getfield 294, 3) := by decide +kernel
theorem d_RangeTellerModel_passCall_204 : decode b_RangeTellerModel_passCall 204 = .ok (.iconst 1, 1) := by decide +kernel
theorem d_RangeTellerModel_passCall_205 : decode b_RangeTellerModel_passCall 205 = .ok (.iadd, 1) := by decide +kernel
theorem d_RangeTellerModel_passCall_206 : decode b_RangeTellerModel_passCall 206 = .ok (.putfield 294, 3) := by decide +kernel
theorem d_RangeTellerModel_passCall_162 : decode b_RangeTellerModel_passCall 162 = .ok (.return_, 1) := by decide +kernel
theorem d_RangeTellerModel_passCall_31 : decode b_RangeTellerModel_passCall 31 = .ok (.iload 5, 2) := by decide +kernel
theorem d_RangeTellerModel_passCall_33 : decode b_RangeTellerModel_passCall 33 = .ok (.iload_n 3, 1) := by decide +kernel
theorem d_RangeTellerModel_passCall_34 : decode b_RangeTellerModel_passCall 34 = .ok (.if_icmp .ge 7, 3) := by decide +kernel
theorem d_RangeTellerModel_passCall_41 : decode b_RangeTellerModel_passCall 41 = .ok (.iconst 0, 1) := by decide +kernel
theorem d_RangeTellerModel_passCall_37 : decode b_RangeTellerModel_passCall 37 = .ok (.iconst 1, 1) := by decide +kernel
theorem d_RangeTellerModel_passCall_38 : decode b_RangeTellerModel_passCall 38 = .ok (.goto 4, 3) := by decide +kernel
theorem d_RangeTellerModel_passCall_0 : decode b_RangeTellerModel_passCall 0 = .ok (.aload_n 0, 1) := by decide +kernel
theorem d_RangeTellerModel_passCall_1 : decode b_RangeTellerModel_passCall 1 = .ok (.getfield 20, 3) := by decide +kernel
theorem d_RangeTellerModel_passCall_4 : decode b_RangeTellerModel_passCall 4 = .ok (.iload_n 1, 1) := by decide +kernel
theorem d_RangeTellerModel_passCall_5 : decode b_RangeTellerModel_passCall 5 = .ok (.iaload, 1) := by decide +kernel
theorem d_RangeTellerModel_passCall_6 : decode b_RangeTellerModel_passCall 6 = .ok (.istore_n 2, 1) := by decide +kernel
theorem d_RangeTellerModel_passCall_7 : decode b_RangeTellerModel_passCall 7 = .ok (.aload_n 0, 1) := by decide +kernel
theorem d_RangeTellerModel_passCall_8 : decode b_RangeTellerModel_passCall 8 = .ok (.getfield 44, 3) := by decide +kernel
theorem d_RangeTellerModel_passCall_11 : decode b_RangeTellerModel_passCall 11 = .ok (.iload_n 2, 1) := by decide +kernel
theorem d_RangeTellerModel_passCall_12 : decode b_RangeTellerModel_passCall 12 = .ok (.iaload, 1) := by decide +kernel
theorem d_RangeTellerModel_passCall_13 : decode b_RangeTellerModel_passCall 13 = .ok (.istore_n 3, 1) := by decide +kernel
theorem d_RangeTellerModel_passCall_14 : decode b_RangeTellerModel_passCall 14 = .ok (.aload_n 0, 1) := by decide +kernel
theorem d_RangeTellerModel_passCall_15 : decode b_RangeTellerModel_passCall 15 = .ok (.getfield 294, 3) := by decide +kernel
theorem d_RangeTellerModel_passCall_18 : decode b_RangeTellerModel_passCall 18 = .ok (.iload_n 3, 1) := by decide +kernel
theorem d_RangeTellerModel_passCall_19 : decode b_RangeTellerModel_passCall 19 = .ok (.isub, 1) := by decide +kernel
theorem d_RangeTellerModel_passCall_20 : decode b_RangeTellerModel_passCall 20 = .ok (.istore 4, 2) := by decide +kernel
theorem d_RangeTellerModel_passCall_22 : decode b_RangeTellerModel_passCall 22 = .ok (.iconst 0, 1) := by decide +kernel
theorem d_RangeTellerModel_passCall_23 : decode b_RangeTellerModel_passCall 23 = .ok (.istore 5, 2) := by decide +kernel
theorem d_RangeTellerModel_giveOn_28 : decode b_RangeTellerModel_giveOn 28 = .ok (.aload_n 0, 1) := by decide +kernel
theorem d_RangeTellerModel_giveOn_29 : decode b_RangeTellerModel_giveOn 29 = .ok (.iload_n 1, 1) := by decide +kernel
theorem d_RangeTellerModel_giveOn_30 : decode b_RangeTellerModel_giveOn 30 = .ok (.invokevirtual 338, 3) := by decide +kernel
theorem d_RangeTellerModel_giveOn_33 : decode b_RangeTellerModel_giveOn 33 = .ok (.goto 164, 3) := by decide +kernel
theorem d_RangeTellerModel_giveOn_197 : decode b_RangeTellerModel_giveOn 197 = .ok (.return_, 1) := by decide +kernel
theorem d_RangeTellerModel_giveOn_146 : decode b_RangeTellerModel_giveOn 146 = .ok (.iload_n 2, 1) := by decide +kernel
theorem d_RangeTellerModel_giveOn_147 : decode b_RangeTellerModel_giveOn 147 = .ok (.iconst 4, 1) := by decide +kernel
theorem d_RangeTellerModel_giveOn_148 : decode b_RangeTellerModel_giveOn 148 = .ok (.if_icmp .ne 18, 3) := by decide +kernel
theorem d_RangeTellerModel_giveOn_166 : decode b_RangeTellerModel_giveOn 166 = .ok (.iload_n 2, 1) := by decide +kernel
theorem d_RangeTellerModel_giveOn_167 : decode b_RangeTellerModel_giveOn 167 = .ok (.bipush 6, 2) := by decide +kernel
theorem d_RangeTellerModel_giveOn_169 : decode b_RangeTellerModel_giveOn 169 = .ok (.if_icmp .ge 13, 3) := by decide +kernel
theorem d_RangeTellerModel_giveOn_182 : decode b_RangeTellerModel_giveOn 182 = .ok (.aload_n 0, 1) := by decide +kernel
theorem d_RangeTellerModel_giveOn_183 : decode b_RangeTellerModel_giveOn 183 = .ok (.iload_n 1, 1) := by decide +kernel
theorem d_RangeTellerModel_giveOn_184 : decode b_RangeTellerModel_giveOn 184 = .ok (.invokevirtual 350, 3) := by decide +kernel
theorem d_RangeTellerModel_giveOn_187 : decode b_RangeTellerModel_giveOn 187 = .ok (.ifCond .eq 10, 3) := by decide +kernel
theorem d_RangeTellerModel_giveOn_190 : decode b_RangeTellerModel_giveOn 190 = .ok (.aload_n 0, 1) := by decide +kernel
theorem d_RangeTellerModel_giveOn_191 : decode b_RangeTellerModel_giveOn 191 = .ok (.iload_n 1, 1) := by decide +kernel
theorem d_RangeTellerModel_giveOn_192 : decode b_RangeTellerModel_giveOn 192 = .ok (.iconst 1, 1) := by decide +kernel
theorem d_RangeTellerModel_giveOn_193 : decode b_RangeTellerModel_giveOn 193 = .ok (.iadd, 1) := by decide +kernel
theorem d_RangeTellerModel_giveOn_194 : decode b_RangeTellerModel_giveOn 194 = .ok (.invokevirtual 323, 3) := by decide +kernel
theorem d_RangeTellerModel_giveOn_172 : decode b_RangeTellerModel_giveOn 172 = .ok (.aload_n 0, 1) := by decide +kernel
theorem d_RangeTellerModel_giveOn_173 : decode b_RangeTellerModel_giveOn 173 = .ok (.iload_n 1, 1) := by decide +kernel
theorem d_RangeTellerModel_giveOn_174 : decode b_RangeTellerModel_giveOn 174 = .ok (.iconst 1, 1) := by decide +kernel
theorem d_RangeTellerModel_giveOn_175 : decode b_RangeTellerModel_giveOn 175 = .ok (.iadd, 1) := by decide +kernel
theorem d_RangeTellerModel_giveOn_176 : decode b_RangeTellerModel_giveOn 176 = .ok (.invokevirtual 323, 3) := by decide +kernel
theorem d_RangeTellerModel_giveOn_179 : decode b_RangeTellerModel_giveOn 179 = .ok (.goto 18, 3) := by decide +kernel
theorem d_RangeTellerModel_giveOn_151 : decode b_RangeTellerModel_giveOn 151 = .ok (.aload_n 0, 1) := by decide +kernel
theorem d_RangeTellerModel_giveOn_152 : decode b_RangeTellerModel_giveOn 152 = .ok (.aload_n 0, 1) := by decide +kernel
theorem d_RangeTellerModel_giveOn_153 : decode b_RangeTellerModel_giveOn 153 = .ok (.getfield 26, 3) := by decide +kernel
theorem d_RangeTellerModel_giveOn_156 : decode b_RangeTellerModel_giveOn 156 = .ok (.iload_n 1, 1) := by decide +kernel
theorem d_RangeTellerModel_giveOn_157 : decode b_RangeTellerModel_giveOn 157 = .ok (.iaload, 1) := by decide +kernel
theorem d_RangeTellerModel_giveOn_158 : decode b_RangeTellerModel_giveOn 158 = .ok (.iconst 1, 1) := by decide +kernel
theorem d_RangeTellerModel_giveOn_159 : decode b_RangeTellerModel_giveOn 159 = .ok (.iadd, 1) := by decide +kernel
theorem d_RangeTellerModel_giveOn_160 : decode b_RangeTellerModel_giveOn 160 = .ok (.invokevirtual 323, 3) := by decide +kernel
theorem d_RangeTellerModel_giveOn_163 : decode b_RangeTellerModel_giveOn 163 = .ok (.goto 34, 3) := by decide +kernel
theorem d_RangeTellerModel_giveOn_138 : decode b_RangeTellerModel_giveOn 138 = .ok (.aload_n 0, 1) := by decide +kernel
theorem d_RangeTellerModel_giveOn_139 : decode b_RangeTellerModel_giveOn 139 = .ok (.iload_n 1, 1) := by decide +kernel
theorem d_RangeTellerModel_giveOn_140 : decode b_RangeTellerModel_giveOn 140 = .ok (.invokevirtual 316, 3) := by decide +kernel
theorem d_RangeTellerModel_giveOn_143 : decode b_RangeTellerModel_giveOn 143 = .ok (.goto 54, 3) := by decide +kernel
theorem d_RangeTellerModel_giveOn_0 : decode b_RangeTellerModel_giveOn 0 = .ok (.aload_n 0, 1) := by decide +kernel
theorem d_RangeTellerModel_giveOn_1 : decode b_RangeTellerModel_giveOn 1 = .ok (.iload_n 1, 1) := by decide +kernel
theorem d_RangeTellerModel_giveOn_2 : decode b_RangeTellerModel_giveOn 2 = .ok (.invokevirtual 326, 3) := by decide +kernel
theorem d_RangeTellerModel_giveOn_5 : decode b_RangeTellerModel_giveOn 5 = .ok (.aload_n 0, 1) := by decide +kernel
theorem d_RangeTellerModel_giveOn_6 : decode b_RangeTellerModel_giveOn 6 = .ok (.getfield 17, 3) := by decide +kernel
theorem d_RangeTellerModel_giveOn_9 : decode b_RangeTellerModel_giveOn 9 = .ok (.iload_n 1, 1) := by decide +kernel
theorem d_RangeTellerModel_giveOn_10 : decode b_RangeTellerModel_giveOn 10 = .ok (.iaload, 1) := by decide +kernel
theorem d_RangeTellerModel_giveOn_11 : decode b_RangeTellerModel_giveOn 11 = .ok (.istore_n 2, 1) := by decide +kernel
theorem d_RangeTellerModel_giveOn_12 : decode b_RangeTellerModel_giveOn 12 = .ok (.iload_n 2, 1) := by decide +kernel
theorem d_RangeTellerModel_giveOn_13 : decode b_RangeTellerModel_giveOn 13 = .ok (.ifCond .ne 4, 3) := by decide +kernel
theorem d_RangeTellerModel_giveOn_17 : decode b_RangeTellerModel_giveOn 17 = .ok (.iload_n 2, 1) := by decide +kernel
theorem d_RangeTellerModel_giveOn_18 : decode b_RangeTellerModel_giveOn 18 = .ok (.iconst 3, 1) := by decide +kernel
theorem d_RangeTellerModel_giveOn_19 : decode b_RangeTellerModel_giveOn 19 = .ok (.if_icmp .eq 9, 3) := by decide +kernel
theorem d_RangeTellerModel_giveOn_22 : decode b_RangeTellerModel_giveOn 22 = .ok (.iload_n 2, 1) := by decide +kernel
theorem d_RangeTellerModel_giveOn_23 : decode b_RangeTellerModel_giveOn 23 = .ok (.bipush 7, 2) := by decide +kernel
theorem d_RangeTellerModel_giveOn_25 : decode b_RangeTellerModel_giveOn 25 = .ok (.if_icmp .ne 11, 3) := by decide +kernel
theorem d_RangeTellerModel_giveOn_36 : decode b_RangeTellerModel_giveOn 36 = .ok (.iload_n 2, 1) := by decide +kernel
theorem d_RangeTellerModel_giveOn_37 : decode b_RangeTellerModel_giveOn 37 = .ok (.bipush 6, 2) := by decide +kernel
theorem d_RangeTellerModel_giveOn_39 : decode b_RangeTellerModel_giveOn 39 = .ok (.if_icmp .ne 11, 3) := by decide +kernel
theorem d_RangeTellerModel_giveOn_50 : decode b_RangeTellerModel_giveOn 50 = .ok (.iload_n 2, 1) := by decide +kernel
theorem d_RangeTellerModel_giveOn_51 : decode b_RangeTellerModel_giveOn 51 = .ok (.bipush 8, 2) := by decide +kernel
theorem d_RangeTellerModel_giveOn_53 : decode b_RangeTellerModel_giveOn 53 = .ok (.if_icmp .ne 11, 3) := by decide +kernel
theorem d_RangeTellerModel_giveOn_64 : decode b_RangeTellerModel_giveOn 64 = .ok (.iload_n 2, 1) := by decide +kernel
theorem d_RangeTellerModel_giveOn_65 : decode b_RangeTellerModel_giveOn 65 = .ok (.bipush 9, 2) := by decide +kernel
theorem d_RangeTellerModel_giveOn_67 : decode b_RangeTellerModel_giveOn 67 = .ok (.if_icmp .ne 11, 3) := by decide +kernel
theorem d_RangeTellerModel_giveOn_78 : decode b_RangeTellerModel_giveOn 78 = .ok (.iload_n 2, 1) := by decide +kernel
theorem d_RangeTellerModel_giveOn_79 : decode b_RangeTellerModel_giveOn 79 = .ok (.bipush 15, 2) := by decide +kernel
theorem d_RangeTellerModel_giveOn_81 : decode b_RangeTellerModel_giveOn 81 = .ok (.if_icmp .ne 11, 3) := by decide +kernel
theorem d_RangeTellerModel_giveOn_92 : decode b_RangeTellerModel_giveOn 92 = .ok (.iload_n 2, 1) := by decide +kernel
theorem d_RangeTellerModel_giveOn_93 : decode b_RangeTellerModel_giveOn 93 = .ok (.bipush 16, 2) := by decide +kernel
theorem d_RangeTellerModel_giveOn_95 : decode b_RangeTellerModel_giveOn 95 = .ok (.if_icmp .ne 11, 3) := by decide +kernel
theorem d_RangeTellerModel_giveOn_106 : decode b_RangeTellerModel_giveOn 106 = .ok (.iload_n 2, 1) := by decide +kernel
theorem d_RangeTellerModel_giveOn_107 : decode b_RangeTellerModel_giveOn 107 = .ok (.iconst 5, 1) := by decide +kernel
theorem d_RangeTellerModel_giveOn_108 : decode b_RangeTellerModel_giveOn 108 = .ok (.if_icmp .ne 38, 3) := by decide +kernel
theorem d_RangeTellerModel_giveOn_111 : decode b_RangeTellerModel_giveOn 111 = .ok (.iload_n 1, 1) := by decide +kernel
theorem d_RangeTellerModel_giveOn_112 : decode b_RangeTellerModel_giveOn 112 = .ok (.iconst 1, 1) := by decide +kernel
theorem d_RangeTellerModel_giveOn_113 : decode b_RangeTellerModel_giveOn 113 = .ok (.iadd, 1) := by decide +kernel
theorem d_RangeTellerModel_giveOn_114 : decode b_RangeTellerModel_giveOn 114 = .ok (.aload_n 0, 1) := by decide +kernel
theorem d_RangeTellerModel_giveOn_115 : decode b_RangeTellerModel_giveOn 115 = .ok (.getfield 171, 3) := by decide +kernel
theorem d_RangeTellerModel_giveOn_118 : decode b_RangeTellerModel_giveOn 118 = .ok (.if_icmp .eq 20, 3) := by decide +kernel
theorem d_RangeTellerModel_giveOn_121 : decode b_RangeTellerModel_giveOn 121 = .ok (.aload_n 0, 1) := by decide +kernel
theorem d_RangeTellerModel_giveOn_122 : decode b_RangeTellerModel_giveOn 122 = .ok (.getfield 23, 3) := by decide +kernel
theorem d_RangeTellerModel_giveOn_125 : decode b_RangeTellerModel_giveOn 125 = .ok (.iload_n 1, 1) := by decide +kernel
theorem d_RangeTellerModel_giveOn_126 : decode b_RangeTellerModel_giveOn 126 = .ok (.iconst 1, 1) := by decide +kernel
theorem d_RangeTellerModel_giveOn_127 : decode b_RangeTellerModel_giveOn 127 = .ok (.iadd, 1) := by decide +kernel
theorem d_RangeTellerModel_giveOn_128 : decode b_RangeTellerModel_giveOn 128 = .ok (.iaload, 1) := by decide +kernel
theorem d_RangeTellerModel_giveOn_129 : decode b_RangeTellerModel_giveOn 129 = .ok (.aload_n 0, 1) := by decide +kernel
theorem d_RangeTellerModel_giveOn_130 : decode b_RangeTellerModel_giveOn 130 = .ok (.getfield 23, 3) := by decide +kernel
theorem d_RangeTellerModel_giveOn_133 : decode b_RangeTellerModel_giveOn 133 = .ok (.iload_n 1, 1) := by decide +kernel
theorem d_RangeTellerModel_giveOn_134 : decode b_RangeTellerModel_giveOn 134 = .ok (.iaload, 1) := by decide +kernel
theorem d_RangeTellerModel_giveOn_135 : decode b_RangeTellerModel_giveOn 135 = .ok (.if_icmp .eq 11, 3) := by decide +kernel
theorem d_RangeTellerModel_giveOn_98 : decode b_RangeTellerModel_giveOn 98 = .ok (.aload_n 0, 1) := by decide +kernel
theorem d_RangeTellerModel_giveOn_99 : decode b_RangeTellerModel_giveOn 99 = .ok (.iload_n 1, 1) := by decide +kernel
theorem d_RangeTellerModel_giveOn_100 : decode b_RangeTellerModel_giveOn 100 = .ok (.invokevirtual 347, 3) := by decide +kernel
theorem d_RangeTellerModel_giveOn_103 : decode b_RangeTellerModel_giveOn 103 = .ok (.goto 94, 3) := by decide +kernel
theorem d_RangeTellerModel_giveOn_84 : decode b_RangeTellerModel_giveOn 84 = .ok (.aload_n 0, 1) := by decide +kernel
theorem d_RangeTellerModel_giveOn_85 : decode b_RangeTellerModel_giveOn 85 = .ok (.iload_n 1, 1) := by decide +kernel
theorem d_RangeTellerModel_giveOn_86 : decode b_RangeTellerModel_giveOn 86 = .ok (.invokevirtual 344, 3) := by decide +kernel
theorem d_RangeTellerModel_giveOn_89 : decode b_RangeTellerModel_giveOn 89 = .ok (.goto 108, 3) := by decide +kernel
theorem d_RangeTellerModel_giveOn_70 : decode b_RangeTellerModel_giveOn 70 = .ok (.aload_n 0, 1) := by decide +kernel
theorem d_RangeTellerModel_giveOn_71 : decode b_RangeTellerModel_giveOn 71 = .ok (.iload_n 1, 1) := by decide +kernel
theorem d_RangeTellerModel_giveOn_72 : decode b_RangeTellerModel_giveOn 72 = .ok (.invokevirtual 341, 3) := by decide +kernel
theorem d_RangeTellerModel_giveOn_75 : decode b_RangeTellerModel_giveOn 75 = .ok (.goto 122, 3) := by decide +kernel
theorem d_RangeTellerModel_giveOn_56 : decode b_RangeTellerModel_giveOn 56 = .ok (.aload_n 0, 1) := by decide +kernel
theorem d_RangeTellerModel_giveOn_57 : decode b_RangeTellerModel_giveOn 57 = .ok (.iload_n 1, 1) := by decide +kernel
theorem d_RangeTellerModel_giveOn_58 : decode b_RangeTellerModel_giveOn 58 = .ok (.invokevirtual 316, 3) := by decide +kernel
theorem d_RangeTellerModel_giveOn_61 : decode b_RangeTellerModel_giveOn 61 = .ok (.goto 136, 3) := by decide +kernel
theorem d_RangeTellerModel_giveOn_42 : decode b_RangeTellerModel_giveOn 42 = .ok (.aload_n 0, 1) := by decide +kernel
theorem d_RangeTellerModel_giveOn_43 : decode b_RangeTellerModel_giveOn 43 = .ok (.iload_n 1, 1) := by decide +kernel
theorem d_RangeTellerModel_giveOn_44 : decode b_RangeTellerModel_giveOn 44 = .ok (.invokevirtual 329, 3) := by decide +kernel
theorem d_RangeTellerModel_giveOn_47 : decode b_RangeTellerModel_giveOn 47 = .ok (.goto 150, 3) := by decide +kernel
theorem d_RangeTellerModel_giveOn_16 : decode b_RangeTellerModel_giveOn 16 = .ok (.return_, 1) := by decide +kernel
theorem d_RangeTellerModel_foretell_128 : decode b_RangeTellerModel_foretell 128 = .ok (.iinc 1 1, 3) := by decide +kernel
theorem d_RangeTellerModel_foretell_131 : decode b_RangeTellerModel_foretell 131 = .ok (.goto (-44), 3) := by decide +kernel
theorem d_RangeTellerModel_foretell_87 : decode b_RangeTellerModel_foretell 87 = .ok (.iload_n 1, 1) := by decide +kernel
theorem d_RangeTellerModel_foretell_88 : decode b_RangeTellerModel_foretell 88 = .ok (.aload_n 0, 1) := by decide +kernel
theorem d_RangeTellerModel_foretell_89 : decode b_RangeTellerModel_foretell 89 = .ok (.getfield 171, 3) := by decide +kernel
theorem d_RangeTellerModel_foretell_92 : decode b_RangeTellerModel_foretell 92 = .ok (.if_icmp .ge 42, 3) := by decide +kernel
theorem d_RangeTellerModel_foretell_134 : decode b_RangeTellerModel_foretell 134 = .ok (.goto (-61), 3) := by decide +kernel
theorem d_RangeTellerModel_foretell_95 : decode b_RangeTellerModel_foretell 95 = .ok (.aload_n 0, 1) := by decide +kernel
theorem d_RangeTellerModel_foretell_96 : decode b_RangeTellerModel_foretell 96 = .ok (.getfield 90, 3) := by decide +kernel
theorem d_RangeTellerModel_foretell_99 : decode b_RangeTellerModel_foretell 99 = .ok (.iload_n 1, 1) := by decide +kernel
theorem d_RangeTellerModel_foretell_100 : decode b_RangeTellerModel_foretell 100 = .ok (.baload, 1) := by decide +kernel
theorem d_RangeTellerModel_foretell_101 : decode b_RangeTellerModel_foretell 101 = .ok (.ifCond .eq 27, 3) := by decide +kernel
theorem d_RangeTellerModel_foretell_104 : decode b_RangeTellerModel_foretell 104 = .ok (.aload_n 0, 1) := by decide +kernel
theorem d_RangeTellerModel_foretell_105 : decode b_RangeTellerModel_foretell 105 = .ok (.getfield 93, 3) := by decide +kernel
theorem d_RangeTellerModel_foretell_108 : decode b_RangeTellerModel_foretell 108 = .ok (.iload_n 1, 1) := by decide +kernel
theorem d_RangeTellerModel_foretell_109 : decode b_RangeTellerModel_foretell 109 = .ok (.baload, 1) := by decide +kernel
theorem d_RangeTellerModel_foretell_110 : decode b_RangeTellerModel_foretell 110 = .ok (.ifCond .ne 6, 3) := by decide +kernel
theorem d_RangeTellerModel_foretell_116 : decode b_RangeTellerModel_foretell 116 = .ok (.aload_n 0, 1) := by decide +kernel
theorem d_RangeTellerModel_foretell_117 : decode b_RangeTellerModel_foretell 117 = .ok (.getfield 93, 3) := by decide +kernel
theorem d_RangeTellerModel_foretell_120 : decode b_RangeTellerModel_foretell 120 = .ok (.iload_n 1, 1) := by decide +kernel
theorem d_RangeTellerModel_foretell_121 : decode b_RangeTellerModel_foretell 121 = .ok (.iconst 0, 1) := by decide +kernel
theorem d_RangeTellerModel_foretell_122 : decode b_RangeTellerModel_foretell 122 = .ok (.bastore, 1) := by decide +kernel
theorem d_RangeTellerModel_foretell_123 : decode b_RangeTellerModel_foretell 123 = .ok (.aload_n 0, 1) := by decide +kernel
theorem d_RangeTellerModel_foretell_124 : decode b_RangeTellerModel_foretell 124 = .ok (.iload_n 1, 1) := by decide +kernel
theorem d_RangeTellerModel_foretell_125 : decode b_RangeTellerModel_foretell 125 = .ok (.invokevirtual 356, 3) := by decide +kernel
theorem d_RangeTellerModel_foretell_113 : decode b_RangeTellerModel_foretell 113 = .ok (.goto 15, 3) := by decide +kernel
theorem d_RangeTellerModel_foretell_73 : decode b_RangeTellerModel_foretell 73 = .ok (.aload_n 0, 1) := by decide +kernel
theorem d_RangeTellerModel_foretell_74 : decode b_RangeTellerModel_foretell 74 = .ok (.getfield 291, 3) := by decide +kernel
theorem d_RangeTellerModel_foretell_77 : decode b_RangeTellerModel_foretell 77 = .ok (.ifCond .eq 60, 3) := by decide +kernel
theorem d_RangeTellerModel_foretell_137 : decode b_RangeTellerModel_foretell 137 = .ok (.return_, 1) := by decide +kernel
theorem d_RangeTellerModel_foretell_80 : decode b_RangeTellerModel_foretell 80 = .ok (.aload_n 0, 1) := by decide +kernel
theorem d_RangeTellerModel_foretell_81 : decode b_RangeTellerModel_foretell 81 = .ok (.iconst 0, 1) := by decide +kernel
theorem d_RangeTellerModel_foretell_82 : decode b_RangeTellerModel_foretell 82 = .ok (.putfield 291, 3) := by decide +kernel
theorem d_RangeTellerModel_foretell_85 : decode b_RangeTellerModel_foretell 85 = .ok (.iconst 0, 1) := by decide +kernel
theorem d_RangeTellerModel_foretell_86 : decode b_RangeTellerModel_foretell 86 = .ok (.istore_n 1, 1) := by decide +kernel
theorem d_RangeTellerModel_foretell_44 : decode b_RangeTellerModel_foretell 44 = .ok (.iastore, 1) := by decide +kernel
theorem d_RangeTellerModel_foretell_45 : decode b_RangeTellerModel_foretell 45 = .ok (.aload_n 0, 1) := by decide +kernel
theorem d_RangeTellerModel_foretell_46 : decode b_RangeTellerModel_foretell 46 = .ok (.getfield 150, 3) := by decide +kernel
theorem d_RangeTellerModel_foretell_49 : decode b_RangeTellerModel_foretell 49 = .ok (.iload_n 1, 1) := by decide +kernel
theorem d_RangeTellerModel_foretell_50 : decode b_RangeTellerModel_foretell 50 = .ok (.iconst 0, 1) := by decide +kernel
theorem d_RangeTellerModel_foretell_51 : decode b_RangeTellerModel_foretell 51 = .ok (.bastore, 1) := by decide +kernel
theorem d_RangeTellerModel_foretell_52 : decode b_RangeTellerModel_foretell 52 = .ok (.iinc 1 1, 3) := by decide +kernel
theorem d_RangeTellerModel_foretell_55 : decode b_RangeTellerModel_foretell 55 = .ok (.goto (-44), 3) := by decide +kernel
theorem d_RangeTellerModel_foretell_11 : decode b_RangeTellerModel_foretell 11 = .ok (.iload_n 1, 1) := by decide +kernel
theorem d_RangeTellerModel_foretell_12 : decode b_RangeTellerModel_foretell 12 = .ok (.iconst 4, 1) := by decide +kernel
theorem d_RangeTellerModel_foretell_13 : decode b_RangeTellerModel_foretell 13 = .ok (.if_icmp .ge 45, 3) := by decide +kernel
theorem d_RangeTellerModel_foretell_58 : decode b_RangeTellerModel_foretell 58 = .ok (.aload_n 0, 1) := by decide +kernel
theorem d_RangeTellerModel_foretell_59 : decode b_RangeTellerModel_foretell 59 = .ok (.aload_n 0, 1) := by decide +kernel
theorem d_RangeTellerModel_foretell_60 : decode b_RangeTellerModel_foretell 60 = .ok (.getfield 53, 3) := by decide +kernel
theorem d_RangeTellerModel_foretell_63 : decode b_RangeTellerModel_foretell 63 = .ok (.iconst 0, 1) := by decide +kernel
theorem d_RangeTellerModel_foretell_64 : decode b_RangeTellerModel_foretell 64 = .ok (.iaload, 1) := by decide +kernel
theorem d_RangeTellerModel_foretell_65 : decode b_RangeTellerModel_foretell 65 = .ok (.invokevirtual 323, 3) := by decide +kernel
theorem d_RangeTellerModel_foretell_68 : decode b_RangeTellerModel_foretell 68 = .ok (.aload_n 0, 1) := by decide +kernel
theorem d_RangeTellerModel_foretell_69 : decode b_RangeTellerModel_foretell 69 = .ok (.iconst 1, 1) := by decide +kernel
theorem d_RangeTellerModel_foretell_70 : decode b_RangeTellerModel_foretell 70 = .ok (.putfield 291, 3) := by decide +kernel
theorem d_RangeTellerModel_foretell_16 : decode b_RangeTellerModel_foretell 16 = .ok (.aload_n 0, 1) := by decide +kernel
theorem d_RangeTellerModel_foretell_17 : decode b_RangeTellerModel_foretell 17 = .ok (.getfield 144, 3) := by decide +kernel
theorem d_RangeTellerModel_foretell_20 : decode b_RangeTellerModel_foretell 20 = .ok (.iload_n 1, 1) := by decide +kernel
theorem d_RangeTellerModel_foretell_21 : decode b_RangeTellerModel_foretell 21 = .ok (.iconst 0, 1) := by decide +kernel
theorem d_RangeTellerModel_foretell_22 : decode b_RangeTellerModel_foretell 22 = .ok (.iastore, 1) := by decide +kernel
theorem d_RangeTellerModel_foretell_23 : decode b_RangeTellerModel_foretell 23 = .ok (.aload_n 0, 1) := by decide +kernel
theorem d_RangeTellerModel_foretell_24 : decode b_RangeTellerModel_foretell 24 = .ok (.getfield 147, 3) := by decide +kernel
theorem d_RangeTellerModel_foretell_27 : decode b_RangeTellerModel_foretell 27 = .ok (.iload_n 1, 1) := by decide +kernel
theorem d_RangeTellerModel_foretell_28 : decode b_RangeTellerModel_foretell 28 = .ok (.iload_n 1, 1) := by decide +kernel
theorem d_RangeTellerModel_foretell_29 : decode b_RangeTellerModel_foretell 29 = .ok (.aload_n 0, 1) := by decide +kernel
theorem d_RangeTellerModel_foretell_30 : decode b_RangeTellerModel_foretell 30 = .ok (.getfield 44, 3) := by decide +kernel
theorem d_RangeTellerModel_foretell_33 : decode b_RangeTellerModel_foretell 33 = .ok (.iconst 0, 1) := by decide +kernel
theorem d_RangeTellerModel_foretell_34 : decode b_RangeTellerModel_foretell 34 = .ok (.iaload, 1) := by decide +kernel
theorem d_RangeTellerModel_foretell_35 : decode b_RangeTellerModel_foretell 35 = .ok (.if_icmp .ge 8, 3) := by decide +kernel
theorem d_RangeTellerModel_foretell_43 : decode b_RangeTellerModel_foretell 43 = .ok (.iconst 0, 1) := by decide +kernel
theorem d_RangeTellerModel_foretell_38 : decode b_RangeTellerModel_foretell 38 = .ok (.bipush 63, 2) := by decide +kernel
theorem d_RangeTellerModel_foretell_40 : decode b_RangeTellerModel_foretell 40 = .ok (.goto 4, 3) := by decide +kernel
theorem d_RangeTellerModel_foretell_0 : decode b_RangeTellerModel_foretell 0 = .ok (.aload_n 0, 1) := by decide +kernel
theorem d_RangeTellerModel_foretell_1 : decode b_RangeTellerModel_foretell 1 = .ok (.invokevirtual 353, 3) := by decide +kernel
theorem d_RangeTellerModel_foretell_4 : decode b_RangeTellerModel_foretell 4 = .ok (.aload_n 0, 1) := by decide +kernel
theorem d_RangeTellerModel_foretell_5 : decode b_RangeTellerModel_foretell 5 = .ok (.iconst 0, 1) := by decide +kernel
theorem d_RangeTellerModel_foretell_6 : decode b_RangeTellerModel_foretell 6 = .ok (.putfield 294, 3) := by decide +kernel
theorem d_RangeTellerModel_foretell_9 : decode b_RangeTellerModel_foretell 9 = .ok (.iconst 0, 1) := by decide +kernel
theorem d_RangeTellerModel_foretell_10 : decode b_RangeTellerModel_foretell 10 = .ok (.istore_n 1, 1) := by decide +kernel
theorem d_RangeTellerModel_load_33 : decode b_RangeTellerModel_load 33 = .ok (.aload_n 0, 1) := by decide +kernel
theorem d_RangeTellerModel_load_34 : decode b_RangeTellerModel_load 34 = .ok (.iconst 0, 1) := by decide +kernel
theorem d_RangeTellerModel_load_35 : decode b_RangeTellerModel_load 35 = .ok (.putfield 153, 3) := by decide +kernel
theorem d_RangeTellerModel_load_38 : decode b_RangeTellerModel_load 38 = .ok (.iload_n 1, 1) := by decide +kernel
theorem d_RangeTellerModel_load_39 : decode b_RangeTellerModel_load 39 = .ok (.ifCond .ne 5, 3) := by decide +kernel
theorem d_RangeTellerModel_load_44 : decode b_RangeTellerModel_load 44 = .ok (.aload_n 0, 1) := by decide +kernel
theorem d_RangeTellerModel_load_45 : decode b_RangeTellerModel_load 45 = .ok (.invokevirtual 233, 3) := by decide +kernel
theorem d_RangeTellerModel_load_48 : decode b_RangeTellerModel_load 48 = .ok (.ifCond .ne 6, 3) := by decide +kernel
theorem d_RangeTellerModel_load_54 : decode b_RangeTellerModel_load 54 = .ok (.aload_n 0, 1) := by decide +kernel
theorem d_RangeTellerModel_load_55 : decode b_RangeTellerModel_load 55 = .ok (.iconst 1, 1) := by decide +kernel
theorem d_RangeTellerModel_load_56 : decode b_RangeTellerModel_load 56 = .ok (.putfield 227, 3) := by decide +kernel
theorem d_RangeTellerModel_load_59 : decode b_RangeTellerModel_load 59 = .ok (.aload_n 0, 1) := by decide +kernel
theorem d_RangeTellerModel_load_60 : decode b_RangeTellerModel_load 60 = .ok (.invokevirtual 236, 3) := by decide +kernel
theorem d_RangeTellerModel_load_63 : decode b_RangeTellerModel_load 63 = .ok (.aload_n 0, 1) := by decide +kernel
theorem d_RangeTellerModel_load_64 : decode b_RangeTellerModel_load 64 = .ok (.getfield 171, 3) := by decide +kernel
theorem d_RangeTellerModel_load_67 : decode b_RangeTellerModel_load 67 = .ok (.ireturn, 1) := by decide +kernel
theorem d_RangeTellerModel_load_51 : decode b_RangeTellerModel_load 51 = .ok (.bipush (-2), 2) := by decide +kernel
theorem d_RangeTellerModel_load_53 : decode b_RangeTellerModel_load 53 = .ok (.ireturn, 1) := by decide +kernel
theorem d_RangeTellerModel_load_42 : decode b_RangeTellerModel_load 42 = .ok (.iconst (-1), 1) := by decide +kernel
theorem d_RangeTellerModel_load_43 : decode b_RangeTellerModel_load 43 = .ok (.ireturn, 1) := by decide +kernel
theorem d_RangeTellerModel_load_0 : decode b_RangeTellerModel_load 0 = .ok (.aload_n 0, 1) := by decide +kernel
theorem d_RangeTellerModel_load_1 : decode b_RangeTellerModel_load 1 = .ok (.iconst 0, 1) := by decide +kernel
theorem d_RangeTellerModel_load_2 : decode b_RangeTellerModel_load 2 = .ok (.putfield 224, 3) := by decide +kernel
theorem d_RangeTellerModel_load_5 : decode b_RangeTellerModel_load 5 = .ok (.aload_n 0, 1) := by decide +kernel
theorem d_RangeTellerModel_load_6 : decode b_RangeTellerModel_load 6 = .ok (.iconst 0, 1) := by decide +kernel
theorem d_RangeTellerModel_load_7 : decode b_RangeTellerModel_load 7 = .ok (.putfield 227, 3) := by decide +kernel
theorem d_RangeTellerModel_load_10 : decode b_RangeTellerModel_load 10 = .ok (.aload_n 0, 1) := by decide +kernel
theorem d_RangeTellerModel_load_11 : decode b_RangeTellerModel_load 11 = .ok (.bipush (-3), 2) := by decide +kernel
theorem d_RangeTellerModel_load_13 : decode b_RangeTellerModel_load 13 = .ok (.putfield 13, 3) := by decide +kernel
theorem d_RangeTellerModel_load_16 : decode b_RangeTellerModel_load 16 = .ok (.aload_n 0, 1) := by decide +kernel
theorem d_RangeTellerModel_load_17 : decode b_RangeTellerModel_load 17 = .ok (.invokevirtual 230, 3) := by decide +kernel
theorem d_RangeTellerModel_load_20 : decode b_RangeTellerModel_load 20 = .ok (.istore_n 1, 1) := by decide +kernel
theorem d_RangeTellerModel_load_21 : decode b_RangeTellerModel_load 21 = .ok (.iload_n 1, 1) := by decide +kernel
theorem d_RangeTellerModel_load_22 : decode b_RangeTellerModel_load 22 = .ok (.ifCond .ne 11, 3) := by decide +kernel
theorem d_RangeTellerModel_load_25 : decode b_RangeTellerModel_load 25 = .ok (.aload_n 0, 1) := by decide +kernel
theorem d_RangeTellerModel_load_26 : decode b_RangeTellerModel_load 26 = .ok (.aload_n 0, 1) := by decide +kernel
theorem d_RangeTellerModel_load_27 : decode b_RangeTellerModel_load 27 = .ok (.getfield 156, 3) := by decide +kernel
theorem d_RangeTellerModel_load_30 : decode b_RangeTellerModel_load 30 = .ok (.putfield 13, 3) := by decide +kernel
theorem d_RangeTellerModel_place_0 : decode b_RangeTellerModel_place 0 = .ok (.aload_n 0, 1) := by decide +kernel
theorem d_RangeTellerModel_place_1 : decode b_RangeTellerModel_place 1 = .ok (.getfield 13, 3) := by decide +kernel
theorem d_RangeTellerModel_place_4 : decode b_RangeTellerModel_place 4 = .ok (.ireturn, 1) := by decide +kernel
theorem d_RangeTellerModel_input_0 : decode b_RangeTellerModel_input 0 = .ok (.iload_n 1, 1) := by decide +kernel
theorem d_RangeTellerModel_input_1 : decode b_RangeTellerModel_input 1 = .ok (.ifCond .lt 18, 3) := by decide +kernel
theorem d_RangeTellerModel_input_19 : decode b_RangeTellerModel_input 19 = .ok (.bipush (-3), 2) := by decide +kernel
theorem d_RangeTellerModel_input_21 : decode b_RangeTellerModel_input 21 = .ok (.ireturn, 1) := by decide +kernel
theorem d_RangeTellerModel_input_4 : decode b_RangeTellerModel_input 4 = .ok (.iload_n 1, 1) := by decide +kernel
theorem d_RangeTellerModel_input_5 : decode b_RangeTellerModel_input 5 = .ok (.bipush 63, 2) := by decide +kernel
theorem d_RangeTellerModel_input_7 : decode b_RangeTellerModel_input 7 = .ok (.if_icmp .gt 12, 3) := by decide +kernel
theorem d_RangeTellerModel_input_10 : decode b_RangeTellerModel_input 10 = .ok (.aload_n 0, 1) := by decide +kernel
theorem d_RangeTellerModel_input_11 : decode b_RangeTellerModel_input 11 = .ok (.getfield 239, 3) := by decide +kernel
theorem d_RangeTellerModel_input_14 : decode b_RangeTellerModel_input 14 = .ok (.bipush 12, 2) := by decide +kernel
theorem d_RangeTellerModel_input_16 : decode b_RangeTellerModel_input 16 = .ok (.if_icmp .ne 6, 3) := by decide +kernel
theorem d_RangeTellerModel_input_22 : decode b_RangeTellerModel_input 22 = .ok (.aload_n 0, 1) := by decide +kernel
theorem d_RangeTellerModel_input_23 : decode b_RangeTellerModel_input 23 = .ok (.getfield 69, 3) := by decide +kernel
theorem d_RangeTellerModel_input_26 : decode b_RangeTellerModel_input 26 = .ok (.aload_n 0, 1) := by decide +kernel
theorem d_RangeTellerModel_input_27 : decode b_RangeTellerModel_input 27 = .ok (.getfield 239, 3) := by decide +kernel
theorem d_RangeTellerModel_input_30 : decode b_RangeTellerModel_input 30 = .ok (.iload_n 1, 1) := by decide +kernel
theorem d_RangeTellerModel_input_31 : decode b_RangeTellerModel_input 31 = .ok (.iastore, 1) := by decide +kernel
theorem d_RangeTellerModel_input_32 : decode b_RangeTellerModel_input 32 = .ok (.aload_n 0, 1) := by decide +kernel
theorem d_RangeTellerModel_input_33 : decode b_RangeTellerModel_input 33 = .ok (.dup, 1) := by decide +kernel
