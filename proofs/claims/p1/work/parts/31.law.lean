/-! THE CLAIM OUT OF ONE WALK OF THE LAW'S BODY. Your part is whole_start (and what it stands on); all else here is the same for every law, but numbers. -/
def R_law : String := "RangeTellerLaw"
def lw_P (b : Addr) (xs : List Int32) (args : Array Value) (s : State) : Prop := args = #[.ref b] ∧ s.IntsAt b xs ∧ xs.length ≤ 4 ∧ (Jvm.Cond.and given_1 narrow_1).before args s = true
def lw_Q (_ : Array Value) (s : State) (o : Outcome) (t : State) : Prop := o = .returned (some (.int 1)) ∧ Framed s o t [] 88 9455
def lw_Z (below : List Frame) (a : Array Value) (s : State) : State → Prop := fun t => ∃ o, t.status = .running ∧ Ended t below o ∧ lw_Q a s o t
/-- the law's own end, with 1 on the stack, nothing written that was there before, its room as the claim has it -/
theorem lw_ret {p : Program} {l : Launch} {e : Env} {s : State} {m : MethodId} {below : List Frame} {meth : Method} {c : Code} {b : Nat} (hx : p.tables.exec = Jvm.exec) (hb : c.code = code) (hr : meth.sig.returnType = ret) (hlocks : meth.locks = false) {pc : Nat} {H : Heap} {ls : Array Slot} (hdg : decode code pc = .ok (.ireturn, 1)) : W p l e room_1 s m #[Value.ref b] below meth c H [] 88 9455 (lw_Z below #[Value.ref b] s) (F0 m pc ls [.int 1]) := by
  intro T hT X
  obtain ⟨fs, hret, hrun, hended, hW, hframe⟩ := X.leave (v := some (.int 1)) (hlocks := hlocks) (fun h => by rw [hr] at h; cases h)
  have hmeth' : T.vm.method? m = some meth := X.method'
  refine ⟨T.setFrames fs, ?_, .returned (some (.int 1)), hrun, hended, rfl, ⟨_, rfl⟩, hW, hframe⟩
  jvm_step X.here [X.here.top, hx, hb, hdg, hmeth', hr, ret, narrow_b1]
  (try refine ⟨rfl, ?_⟩); (try refine ⟨rfl, ?_⟩)
  first | (intro acts; rw [hret _ acts rfl rfl rfl]) | rw [hret _ _ rfl rfl rfl]
  exact Steps.refl _
/-- what holds at the law's entry: the machine, the code, the tables' words (any of lw_tbl by 'hts w (by decide +kernel)'), the script of L ints xs at the cell b, what the Statement gives of the start (any of its parts by flat_of_before) -/
def lw_At (p : Program) (s : State) (m : MethodId) (meth : Method) (c : Code) (b L : Nat) (xs : Nat → Int32) : Prop :=
  p.tables.exec = Jvm.exec ∧ c.code = code ∧ meth.sig.returnType = ret ∧ c.maxLocals = 4 ∧ s.vm.findClass R_law = some m.cls ∧ (∀ w ∈ lw_tbl, w.before #[Value.ref b] s = true) ∧ va_X b L xs s s.heap ∧ b < s.heap.size ∧ meth.locks = false ∧ (Jvm.Cond.and given_1 narrow_1).before #[Value.ref b] s = true
theorem dL_0 : decode code 0 = .ok (.new 7, 3) := by decide +kernel
theorem dL_3 : decode code 3 = .ok (.dup, 1) := by decide +kernel
theorem dL_4 : decode code 4 = .ok (.invokespecial 9, 3) := by decide +kernel
theorem dL_7 : decode code 7 = .ok (.astore_n 1, 1) := by decide +kernel
theorem dL_8 : decode code 8 = .ok (.new 10, 3) := by decide +kernel
theorem dL_11 : decode code 11 = .ok (.dup, 1) := by decide +kernel
theorem dL_12 : decode code 12 = .ok (.invokespecial 12, 3) := by decide +kernel
theorem dL_15 : decode code 15 = .ok (.astore_n 2, 1) := by decide +kernel
theorem dL_16 : decode code 16 = .ok (.iconst 0, 1) := by decide +kernel
theorem dL_17 : decode code 17 = .ok (.istore_n 3, 1) := by decide +kernel
theorem dL_18 : decode code 18 = .ok (.iload_n 3, 1) := by decide +kernel
theorem dL_19 : decode code 19 = .ok (.aload_n 0, 1) := by decide +kernel
theorem dL_20 : decode code 20 = .ok (.arraylength, 1) := by decide +kernel
theorem dL_21 : decode code 21 = .ok (.iconst 4, 1) := by decide +kernel
theorem dL_22 : decode code 22 = .ok (.isub, 1) := by decide +kernel
theorem dL_23 : decode code 23 = .ok (.if_icmp .gt 422, 3) := by decide +kernel
theorem dL_26 : decode code 26 = .ok (.aload_n 0, 1) := by decide +kernel
theorem dL_27 : decode code 27 = .ok (.iload_n 3, 1) := by decide +kernel
theorem dL_28 : decode code 28 = .ok (.iaload, 1) := by decide +kernel
theorem dL_29 : decode code 29 = .ok (.bipush 15, 2) := by decide +kernel
theorem dL_31 : decode code 31 = .ok (.iand, 1) := by decide +kernel
theorem dL_32 : decode code 32 = .ok (.tableswitch 407 0 12 #[68, 91, 104, 117, 140, 183, 206, 229, 252, 285, 318, 351, 374], 68) := by decide +kernel
theorem dL_100 : decode code 100 = .ok (.aload_n 1, 1) := by decide +kernel
theorem dL_101 : decode code 101 = .ok (.aload_n 0, 1) := by decide +kernel
theorem dL_102 : decode code 102 = .ok (.iload_n 3, 1) := by decide +kernel
theorem dL_103 : decode code 103 = .ok (.iconst 1, 1) := by decide +kernel
theorem dL_104 : decode code 104 = .ok (.iadd, 1) := by decide +kernel
theorem dL_105 : decode code 105 = .ok (.iaload, 1) := by decide +kernel
theorem dL_106 : decode code 106 = .ok (.invokevirtual 13, 3) := by decide +kernel
theorem dL_109 : decode code 109 = .ok (.aload_n 2, 1) := by decide +kernel
theorem dL_110 : decode code 110 = .ok (.aload_n 0, 1) := by decide +kernel
theorem dL_111 : decode code 111 = .ok (.iload_n 3, 1) := by decide +kernel
theorem dL_112 : decode code 112 = .ok (.iconst 1, 1) := by decide +kernel
theorem dL_113 : decode code 113 = .ok (.iadd, 1) := by decide +kernel
theorem dL_114 : decode code 114 = .ok (.iaload, 1) := by decide +kernel
theorem dL_115 : decode code 115 = .ok (.invokevirtual 17, 3) := by decide +kernel
theorem dL_118 : decode code 118 = .ok (.if_icmp .eq 321, 3) := by decide +kernel
theorem dL_121 : decode code 121 = .ok (.iconst 0, 1) := by decide +kernel
theorem dL_122 : decode code 122 = .ok (.ireturn, 1) := by decide +kernel
theorem dL_123 : decode code 123 = .ok (.aload_n 1, 1) := by decide +kernel
theorem dL_124 : decode code 124 = .ok (.invokevirtual 18, 3) := by decide +kernel
theorem dL_127 : decode code 127 = .ok (.aload_n 2, 1) := by decide +kernel
theorem dL_128 : decode code 128 = .ok (.invokevirtual 22, 3) := by decide +kernel
theorem dL_131 : decode code 131 = .ok (.if_icmp .eq 308, 3) := by decide +kernel
theorem dL_134 : decode code 134 = .ok (.iconst 0, 1) := by decide +kernel
theorem dL_135 : decode code 135 = .ok (.ireturn, 1) := by decide +kernel
theorem dL_136 : decode code 136 = .ok (.aload_n 1, 1) := by decide +kernel
theorem dL_137 : decode code 137 = .ok (.invokevirtual 23, 3) := by decide +kernel
theorem dL_140 : decode code 140 = .ok (.aload_n 2, 1) := by decide +kernel
theorem dL_141 : decode code 141 = .ok (.invokevirtual 26, 3) := by decide +kernel
theorem dL_144 : decode code 144 = .ok (.if_icmp .eq 295, 3) := by decide +kernel
theorem dL_147 : decode code 147 = .ok (.iconst 0, 1) := by decide +kernel
theorem dL_148 : decode code 148 = .ok (.ireturn, 1) := by decide +kernel
theorem dL_149 : decode code 149 = .ok (.aload_n 1, 1) := by decide +kernel
theorem dL_150 : decode code 150 = .ok (.aload_n 0, 1) := by decide +kernel
theorem dL_151 : decode code 151 = .ok (.iload_n 3, 1) := by decide +kernel
theorem dL_152 : decode code 152 = .ok (.iconst 1, 1) := by decide +kernel
theorem dL_153 : decode code 153 = .ok (.iadd, 1) := by decide +kernel
theorem dL_154 : decode code 154 = .ok (.iaload, 1) := by decide +kernel
theorem dL_155 : decode code 155 = .ok (.invokevirtual 27, 3) := by decide +kernel
theorem dL_158 : decode code 158 = .ok (.aload_n 2, 1) := by decide +kernel
theorem dL_159 : decode code 159 = .ok (.aload_n 0, 1) := by decide +kernel
theorem dL_160 : decode code 160 = .ok (.iload_n 3, 1) := by decide +kernel
theorem dL_161 : decode code 161 = .ok (.iconst 1, 1) := by decide +kernel
theorem dL_162 : decode code 162 = .ok (.iadd, 1) := by decide +kernel
theorem dL_163 : decode code 163 = .ok (.iaload, 1) := by decide +kernel
theorem dL_164 : decode code 164 = .ok (.invokevirtual 31, 3) := by decide +kernel
theorem dL_167 : decode code 167 = .ok (.if_icmp .eq 272, 3) := by decide +kernel
theorem dL_170 : decode code 170 = .ok (.iconst 0, 1) := by decide +kernel
theorem dL_171 : decode code 171 = .ok (.ireturn, 1) := by decide +kernel
theorem dL_172 : decode code 172 = .ok (.aload_n 1, 1) := by decide +kernel
theorem dL_173 : decode code 173 = .ok (.aload_n 0, 1) := by decide +kernel
theorem dL_174 : decode code 174 = .ok (.iload_n 3, 1) := by decide +kernel
theorem dL_175 : decode code 175 = .ok (.iconst 1, 1) := by decide +kernel
theorem dL_176 : decode code 176 = .ok (.iadd, 1) := by decide +kernel
theorem dL_177 : decode code 177 = .ok (.iaload, 1) := by decide +kernel
theorem dL_178 : decode code 178 = .ok (.aload_n 0, 1) := by decide +kernel
theorem dL_179 : decode code 179 = .ok (.iload_n 3, 1) := by decide +kernel
theorem dL_180 : decode code 180 = .ok (.iconst 2, 1) := by decide +kernel
theorem dL_181 : decode code 181 = .ok (.iadd, 1) := by decide +kernel
theorem dL_182 : decode code 182 = .ok (.iaload, 1) := by decide +kernel
theorem dL_183 : decode code 183 = .ok (.aload_n 0, 1) := by decide +kernel
theorem dL_184 : decode code 184 = .ok (.iload_n 3, 1) := by decide +kernel
theorem dL_185 : decode code 185 = .ok (.iconst 3, 1) := by decide +kernel
theorem dL_186 : decode code 186 = .ok (.iadd, 1) := by decide +kernel
theorem dL_187 : decode code 187 = .ok (.iaload, 1) := by decide +kernel
theorem dL_188 : decode code 188 = .ok (.invokevirtual 32, 3) := by decide +kernel
theorem dL_191 : decode code 191 = .ok (.aload_n 2, 1) := by decide +kernel
theorem dL_192 : decode code 192 = .ok (.aload_n 0, 1) := by decide +kernel
theorem dL_193 : decode code 193 = .ok (.iload_n 3, 1) := by decide +kernel
theorem dL_194 : decode code 194 = .ok (.iconst 1, 1) := by decide +kernel
theorem dL_195 : decode code 195 = .ok (.iadd, 1) := by decide +kernel
theorem dL_196 : decode code 196 = .ok (.iaload, 1) := by decide +kernel
theorem dL_197 : decode code 197 = .ok (.aload_n 0, 1) := by decide +kernel
theorem dL_198 : decode code 198 = .ok (.iload_n 3, 1) := by decide +kernel
theorem dL_199 : decode code 199 = .ok (.iconst 2, 1) := by decide +kernel
theorem dL_200 : decode code 200 = .ok (.iadd, 1) := by decide +kernel
theorem dL_201 : decode code 201 = .ok (.iaload, 1) := by decide +kernel
theorem dL_202 : decode code 202 = .ok (.aload_n 0, 1) := by decide +kernel
theorem dL_203 : decode code 203 = .ok (.iload_n 3, 1) := by decide +kernel
theorem dL_204 : decode code 204 = .ok (.iconst 3, 1) := by decide +kernel
theorem dL_205 : decode code 205 = .ok (.iadd, 1) := by decide +kernel
theorem dL_206 : decode code 206 = .ok (.iaload, 1) := by decide +kernel
theorem dL_207 : decode code 207 = .ok (.invokevirtual 36, 3) := by decide +kernel
theorem dL_210 : decode code 210 = .ok (.if_icmp .eq 229, 3) := by decide +kernel
theorem dL_213 : decode code 213 = .ok (.iconst 0, 1) := by decide +kernel
theorem dL_214 : decode code 214 = .ok (.ireturn, 1) := by decide +kernel
theorem dL_215 : decode code 215 = .ok (.aload_n 1, 1) := by decide +kernel
theorem dL_216 : decode code 216 = .ok (.aload_n 0, 1) := by decide +kernel
theorem dL_217 : decode code 217 = .ok (.iload_n 3, 1) := by decide +kernel
theorem dL_218 : decode code 218 = .ok (.iconst 1, 1) := by decide +kernel
theorem dL_219 : decode code 219 = .ok (.iadd, 1) := by decide +kernel
theorem dL_220 : decode code 220 = .ok (.iaload, 1) := by decide +kernel
theorem dL_221 : decode code 221 = .ok (.invokevirtual 37, 3) := by decide +kernel
theorem dL_224 : decode code 224 = .ok (.aload_n 2, 1) := by decide +kernel
theorem dL_225 : decode code 225 = .ok (.aload_n 0, 1) := by decide +kernel
theorem dL_226 : decode code 226 = .ok (.iload_n 3, 1) := by decide +kernel
theorem dL_227 : decode code 227 = .ok (.iconst 1, 1) := by decide +kernel
theorem dL_228 : decode code 228 = .ok (.iadd, 1) := by decide +kernel
theorem dL_229 : decode code 229 = .ok (.iaload, 1) := by decide +kernel
theorem dL_230 : decode code 230 = .ok (.invokevirtual 40, 3) := by decide +kernel
theorem dL_233 : decode code 233 = .ok (.if_icmp .eq 206, 3) := by decide +kernel
theorem dL_236 : decode code 236 = .ok (.iconst 0, 1) := by decide +kernel
theorem dL_237 : decode code 237 = .ok (.ireturn, 1) := by decide +kernel
theorem dL_238 : decode code 238 = .ok (.aload_n 1, 1) := by decide +kernel
theorem dL_239 : decode code 239 = .ok (.aload_n 0, 1) := by decide +kernel
theorem dL_240 : decode code 240 = .ok (.iload_n 3, 1) := by decide +kernel
theorem dL_241 : decode code 241 = .ok (.iconst 1, 1) := by decide +kernel
theorem dL_242 : decode code 242 = .ok (.iadd, 1) := by decide +kernel
theorem dL_243 : decode code 243 = .ok (.iaload, 1) := by decide +kernel
theorem dL_244 : decode code 244 = .ok (.invokevirtual 41, 3) := by decide +kernel
theorem dL_247 : decode code 247 = .ok (.aload_n 2, 1) := by decide +kernel
theorem dL_248 : decode code 248 = .ok (.aload_n 0, 1) := by decide +kernel
theorem dL_249 : decode code 249 = .ok (.iload_n 3, 1) := by decide +kernel
theorem dL_250 : decode code 250 = .ok (.iconst 1, 1) := by decide +kernel
theorem dL_251 : decode code 251 = .ok (.iadd, 1) := by decide +kernel
theorem dL_252 : decode code 252 = .ok (.iaload, 1) := by decide +kernel
theorem dL_253 : decode code 253 = .ok (.invokevirtual 44, 3) := by decide +kernel
theorem dL_256 : decode code 256 = .ok (.if_icmp .eq 183, 3) := by decide +kernel
theorem dL_259 : decode code 259 = .ok (.iconst 0, 1) := by decide +kernel
theorem dL_260 : decode code 260 = .ok (.ireturn, 1) := by decide +kernel
theorem dL_261 : decode code 261 = .ok (.aload_n 1, 1) := by decide +kernel
theorem dL_262 : decode code 262 = .ok (.aload_n 0, 1) := by decide +kernel
theorem dL_263 : decode code 263 = .ok (.iload_n 3, 1) := by decide +kernel
theorem dL_264 : decode code 264 = .ok (.iconst 1, 1) := by decide +kernel
theorem dL_265 : decode code 265 = .ok (.iadd, 1) := by decide +kernel
theorem dL_266 : decode code 266 = .ok (.iaload, 1) := by decide +kernel
theorem dL_267 : decode code 267 = .ok (.invokevirtual 45, 3) := by decide +kernel
theorem dL_270 : decode code 270 = .ok (.aload_n 2, 1) := by decide +kernel
theorem dL_271 : decode code 271 = .ok (.aload_n 0, 1) := by decide +kernel
theorem dL_272 : decode code 272 = .ok (.iload_n 3, 1) := by decide +kernel
theorem dL_273 : decode code 273 = .ok (.iconst 1, 1) := by decide +kernel
theorem dL_274 : decode code 274 = .ok (.iadd, 1) := by decide +kernel
theorem dL_275 : decode code 275 = .ok (.iaload, 1) := by decide +kernel
theorem dL_276 : decode code 276 = .ok (.invokevirtual 48, 3) := by decide +kernel
theorem dL_279 : decode code 279 = .ok (.if_icmp .eq 160, 3) := by decide +kernel
theorem dL_282 : decode code 282 = .ok (.iconst 0, 1) := by decide +kernel
theorem dL_283 : decode code 283 = .ok (.ireturn, 1) := by decide +kernel
theorem dL_284 : decode code 284 = .ok (.aload_n 1, 1) := by decide +kernel
theorem dL_285 : decode code 285 = .ok (.aload_n 0, 1) := by decide +kernel
theorem dL_286 : decode code 286 = .ok (.iload_n 3, 1) := by decide +kernel
theorem dL_287 : decode code 287 = .ok (.iconst 1, 1) := by decide +kernel
theorem dL_288 : decode code 288 = .ok (.iadd, 1) := by decide +kernel
theorem dL_289 : decode code 289 = .ok (.iaload, 1) := by decide +kernel
theorem dL_290 : decode code 290 = .ok (.aload_n 0, 1) := by decide +kernel
theorem dL_291 : decode code 291 = .ok (.iload_n 3, 1) := by decide +kernel
theorem dL_292 : decode code 292 = .ok (.iconst 2, 1) := by decide +kernel
theorem dL_293 : decode code 293 = .ok (.iadd, 1) := by decide +kernel
theorem dL_294 : decode code 294 = .ok (.iaload, 1) := by decide +kernel
theorem dL_295 : decode code 295 = .ok (.invokevirtual 49, 3) := by decide +kernel
theorem dL_298 : decode code 298 = .ok (.aload_n 2, 1) := by decide +kernel
theorem dL_299 : decode code 299 = .ok (.aload_n 0, 1) := by decide +kernel
theorem dL_300 : decode code 300 = .ok (.iload_n 3, 1) := by decide +kernel
theorem dL_301 : decode code 301 = .ok (.iconst 1, 1) := by decide +kernel
theorem dL_302 : decode code 302 = .ok (.iadd, 1) := by decide +kernel
theorem dL_303 : decode code 303 = .ok (.iaload, 1) := by decide +kernel
theorem dL_304 : decode code 304 = .ok (.aload_n 0, 1) := by decide +kernel
theorem dL_305 : decode code 305 = .ok (.iload_n 3, 1) := by decide +kernel
theorem dL_306 : decode code 306 = .ok (.iconst 2, 1) := by decide +kernel
theorem dL_307 : decode code 307 = .ok (.iadd, 1) := by decide +kernel
theorem dL_308 : decode code 308 = .ok (.iaload, 1) := by decide +kernel
theorem dL_309 : decode code 309 = .ok (.invokevirtual 53, 3) := by decide +kernel
theorem dL_312 : decode code 312 = .ok (.if_icmp .eq 127, 3) := by decide +kernel
theorem dL_315 : decode code 315 = .ok (.iconst 0, 1) := by decide +kernel
theorem dL_316 : decode code 316 = .ok (.ireturn, 1) := by decide +kernel
theorem dL_317 : decode code 317 = .ok (.aload_n 1, 1) := by decide +kernel
theorem dL_318 : decode code 318 = .ok (.aload_n 0, 1) := by decide +kernel
theorem dL_319 : decode code 319 = .ok (.iload_n 3, 1) := by decide +kernel
theorem dL_320 : decode code 320 = .ok (.iconst 1, 1) := by decide +kernel
theorem dL_321 : decode code 321 = .ok (.iadd, 1) := by decide +kernel
theorem dL_322 : decode code 322 = .ok (.iaload, 1) := by decide +kernel
theorem dL_323 : decode code 323 = .ok (.aload_n 0, 1) := by decide +kernel
theorem dL_324 : decode code 324 = .ok (.iload_n 3, 1) := by decide +kernel
theorem dL_325 : decode code 325 = .ok (.iconst 2, 1) := by decide +kernel
theorem dL_326 : decode code 326 = .ok (.iadd, 1) := by decide +kernel
theorem dL_327 : decode code 327 = .ok (.iaload, 1) := by decide +kernel
theorem dL_328 : decode code 328 = .ok (.invokevirtual 54, 3) := by decide +kernel
theorem dL_331 : decode code 331 = .ok (.aload_n 2, 1) := by decide +kernel
theorem dL_332 : decode code 332 = .ok (.aload_n 0, 1) := by decide +kernel
theorem dL_333 : decode code 333 = .ok (.iload_n 3, 1) := by decide +kernel
theorem dL_334 : decode code 334 = .ok (.iconst 1, 1) := by decide +kernel
theorem dL_335 : decode code 335 = .ok (.iadd, 1) := by decide +kernel
theorem dL_336 : decode code 336 = .ok (.iaload, 1) := by decide +kernel
theorem dL_337 : decode code 337 = .ok (.aload_n 0, 1) := by decide +kernel
theorem dL_338 : decode code 338 = .ok (.iload_n 3, 1) := by decide +kernel
theorem dL_339 : decode code 339 = .ok (.iconst 2, 1) := by decide +kernel
theorem dL_340 : decode code 340 = .ok (.iadd, 1) := by decide +kernel
theorem dL_341 : decode code 341 = .ok (.iaload, 1) := by decide +kernel
theorem dL_342 : decode code 342 = .ok (.invokevirtual 57, 3) := by decide +kernel
theorem dL_345 : decode code 345 = .ok (.if_icmp .eq 94, 3) := by decide +kernel
theorem dL_348 : decode code 348 = .ok (.iconst 0, 1) := by decide +kernel
theorem dL_349 : decode code 349 = .ok (.ireturn, 1) := by decide +kernel
theorem dL_350 : decode code 350 = .ok (.aload_n 1, 1) := by decide +kernel
theorem dL_351 : decode code 351 = .ok (.aload_n 0, 1) := by decide +kernel
theorem dL_352 : decode code 352 = .ok (.iload_n 3, 1) := by decide +kernel
theorem dL_353 : decode code 353 = .ok (.iconst 1, 1) := by decide +kernel
theorem dL_354 : decode code 354 = .ok (.iadd, 1) := by decide +kernel
theorem dL_355 : decode code 355 = .ok (.iaload, 1) := by decide +kernel
theorem dL_356 : decode code 356 = .ok (.aload_n 0, 1) := by decide +kernel
theorem dL_357 : decode code 357 = .ok (.iload_n 3, 1) := by decide +kernel
theorem dL_358 : decode code 358 = .ok (.iconst 2, 1) := by decide +kernel
theorem dL_359 : decode code 359 = .ok (.iadd, 1) := by decide +kernel
theorem dL_360 : decode code 360 = .ok (.iaload, 1) := by decide +kernel
theorem dL_361 : decode code 361 = .ok (.invokevirtual 58, 3) := by decide +kernel
theorem dL_364 : decode code 364 = .ok (.aload_n 2, 1) := by decide +kernel
theorem dL_365 : decode code 365 = .ok (.aload_n 0, 1) := by decide +kernel
theorem dL_366 : decode code 366 = .ok (.iload_n 3, 1) := by decide +kernel
theorem dL_367 : decode code 367 = .ok (.iconst 1, 1) := by decide +kernel
theorem dL_368 : decode code 368 = .ok (.iadd, 1) := by decide +kernel
theorem dL_369 : decode code 369 = .ok (.iaload, 1) := by decide +kernel
theorem dL_370 : decode code 370 = .ok (.aload_n 0, 1) := by decide +kernel
theorem dL_371 : decode code 371 = .ok (.iload_n 3, 1) := by decide +kernel
theorem dL_372 : decode code 372 = .ok (.iconst 2, 1) := by decide +kernel
theorem dL_373 : decode code 373 = .ok (.iadd, 1) := by decide +kernel
theorem dL_374 : decode code 374 = .ok (.iaload, 1) := by decide +kernel
theorem dL_375 : decode code 375 = .ok (.invokevirtual 61, 3) := by decide +kernel
theorem dL_378 : decode code 378 = .ok (.if_icmp .eq 61, 3) := by decide +kernel
theorem dL_381 : decode code 381 = .ok (.iconst 0, 1) := by decide +kernel
theorem dL_382 : decode code 382 = .ok (.ireturn, 1) := by decide +kernel
theorem dL_383 : decode code 383 = .ok (.aload_n 1, 1) := by decide +kernel
theorem dL_384 : decode code 384 = .ok (.aload_n 0, 1) := by decide +kernel
theorem dL_385 : decode code 385 = .ok (.iload_n 3, 1) := by decide +kernel
theorem dL_386 : decode code 386 = .ok (.iconst 1, 1) := by decide +kernel
theorem dL_387 : decode code 387 = .ok (.iadd, 1) := by decide +kernel
theorem dL_388 : decode code 388 = .ok (.iaload, 1) := by decide +kernel
theorem dL_389 : decode code 389 = .ok (.invokevirtual 62, 3) := by decide +kernel
theorem dL_392 : decode code 392 = .ok (.aload_n 2, 1) := by decide +kernel
theorem dL_393 : decode code 393 = .ok (.aload_n 0, 1) := by decide +kernel
theorem dL_394 : decode code 394 = .ok (.iload_n 3, 1) := by decide +kernel
theorem dL_395 : decode code 395 = .ok (.iconst 1, 1) := by decide +kernel
theorem dL_396 : decode code 396 = .ok (.iadd, 1) := by decide +kernel
theorem dL_397 : decode code 397 = .ok (.iaload, 1) := by decide +kernel
theorem dL_398 : decode code 398 = .ok (.invokevirtual 65, 3) := by decide +kernel
theorem dL_401 : decode code 401 = .ok (.if_icmp .eq 38, 3) := by decide +kernel
theorem dL_404 : decode code 404 = .ok (.iconst 0, 1) := by decide +kernel
theorem dL_405 : decode code 405 = .ok (.ireturn, 1) := by decide +kernel
theorem dL_406 : decode code 406 = .ok (.aload_n 1, 1) := by decide +kernel
theorem dL_407 : decode code 407 = .ok (.aload_n 0, 1) := by decide +kernel
theorem dL_408 : decode code 408 = .ok (.iload_n 3, 1) := by decide +kernel
theorem dL_409 : decode code 409 = .ok (.iconst 1, 1) := by decide +kernel
theorem dL_410 : decode code 410 = .ok (.iadd, 1) := by decide +kernel
theorem dL_411 : decode code 411 = .ok (.iaload, 1) := by decide +kernel
theorem dL_412 : decode code 412 = .ok (.aload_n 0, 1) := by decide +kernel
theorem dL_413 : decode code 413 = .ok (.iload_n 3, 1) := by decide +kernel
theorem dL_414 : decode code 414 = .ok (.iconst 2, 1) := by decide +kernel
theorem dL_415 : decode code 415 = .ok (.iadd, 1) := by decide +kernel
theorem dL_416 : decode code 416 = .ok (.iaload, 1) := by decide +kernel
theorem dL_417 : decode code 417 = .ok (.invokevirtual 66, 3) := by decide +kernel
theorem dL_420 : decode code 420 = .ok (.aload_n 2, 1) := by decide +kernel
theorem dL_421 : decode code 421 = .ok (.aload_n 0, 1) := by decide +kernel
theorem dL_422 : decode code 422 = .ok (.iload_n 3, 1) := by decide +kernel
theorem dL_423 : decode code 423 = .ok (.iconst 1, 1) := by decide +kernel
theorem dL_424 : decode code 424 = .ok (.iadd, 1) := by decide +kernel
theorem dL_425 : decode code 425 = .ok (.iaload, 1) := by decide +kernel
theorem dL_426 : decode code 426 = .ok (.aload_n 0, 1) := by decide +kernel
theorem dL_427 : decode code 427 = .ok (.iload_n 3, 1) := by decide +kernel
theorem dL_428 : decode code 428 = .ok (.iconst 2, 1) := by decide +kernel
theorem dL_429 : decode code 429 = .ok (.iadd, 1) := by decide +kernel
theorem dL_430 : decode code 430 = .ok (.iaload, 1) := by decide +kernel
theorem dL_431 : decode code 431 = .ok (.invokevirtual 69, 3) := by decide +kernel
theorem dL_434 : decode code 434 = .ok (.if_icmp .eq 5, 3) := by decide +kernel
theorem dL_437 : decode code 437 = .ok (.iconst 0, 1) := by decide +kernel
theorem dL_438 : decode code 438 = .ok (.ireturn, 1) := by decide +kernel
theorem dL_439 : decode code 439 = .ok (.iinc 3 4, 3) := by decide +kernel
theorem dL_442 : decode code 442 = .ok (.goto (-424), 3) := by decide +kernel
theorem dL_445 : decode code 445 = .ok (.iconst 1, 1) := by decide +kernel
theorem dL_446 : decode code 446 = .ok (.ireturn, 1) := by decide +kernel
def rtC_0 : rt_St := rt_up (fun _ _ => 0) 0 6 (-3)
def rtR_0 : rt_St := rt_up (fun _ _ => 0) 0 5 (-3)
def rt_c0 (Rel : rt_St → rt_St → Prop) (f g : rt_St → Option (Int32 × rt_St)) (σ τ : rt_St) : Prop := ∃ r u v, f σ = some (r, u) ∧ g τ = some (r, v) ∧ Rel u v
def rt_c1 (Rel : rt_St → rt_St → Prop) (f g : rt_St → Int32 → Option (Int32 × rt_St)) (σ τ : rt_St) : Prop := ∀ x0 : Int32, ∃ r u v, f σ x0 = some (r, u) ∧ g τ x0 = some (r, v) ∧ Rel u v
def rt_c2 (Rel : rt_St → rt_St → Prop) (f g : rt_St → Int32 → Int32 → Option (Int32 × rt_St)) (σ τ : rt_St) : Prop := ∀ x0 x1 : Int32, ∃ r u v, f σ x0 x1 = some (r, u) ∧ g τ x0 x1 = some (r, v) ∧ Rel u v
def rt_c3 (Rel : rt_St → rt_St → Prop) (f g : rt_St → Int32 → Int32 → Int32 → Option (Int32 × rt_St)) (σ τ : rt_St) : Prop := ∀ x0 x1 x2 : Int32, ∃ r u v, f σ x0 x1 x2 = some (r, u) ∧ g τ x0 x1 x2 = some (r, v) ∧ Rel u v
/-- every call of the face keeps the relation, with equal answers -/
def rt_Step (Rel : Nat → rt_St → rt_St → Prop) (T : Nat) : Prop := ∀ i, i < T → ∀ σ τ, Rel i σ τ → rt_c1 (Rel (i + 1)) M_C_RangeTeller_feed M_R_RangeTellerModel_feed σ τ ∧ rt_c0 (Rel (i + 1)) M_C_RangeTeller_load M_R_RangeTellerModel_load σ τ ∧ rt_c0 (Rel (i + 1)) M_C_RangeTeller_place M_R_RangeTellerModel_place σ τ ∧ rt_c1 (Rel (i + 1)) M_C_RangeTeller_input M_R_RangeTellerModel_input σ τ ∧ rt_c3 (Rel (i + 1)) M_C_RangeTeller_run M_R_RangeTellerModel_run σ τ ∧ rt_c1 (Rel (i + 1)) M_C_RangeTeller_outcome M_R_RangeTellerModel_outcome σ τ ∧ rt_c1 (Rel (i + 1)) M_C_RangeTeller_output M_R_RangeTellerModel_output σ τ ∧ rt_c1 (Rel (i + 1)) M_C_RangeTeller_memory M_R_RangeTellerModel_memory σ τ ∧ rt_c2 (Rel (i + 1)) M_C_RangeTeller_instruction M_R_RangeTellerModel_instruction σ τ ∧ rt_c2 (Rel (i + 1)) M_C_RangeTeller_operand M_R_RangeTellerModel_operand σ τ ∧ rt_c2 (Rel (i + 1)) M_C_RangeTeller_local M_R_RangeTellerModel_local σ τ ∧ rt_c1 (Rel (i + 1)) M_C_RangeTeller_cell M_R_RangeTellerModel_cell σ τ ∧ rt_c2 (Rel (i + 1)) M_C_RangeTeller_function M_R_RangeTellerModel_function σ τ ∧ Rel (i + 1) σ τ
theorem rt_Dm {A : Nat → Prop} {w1 w2 : va_W} (h : w2.map (·.1) = w1.map (·.1)) (hD : va_D A w1) : va_D A w2 := by
  refine ⟨fun i j p q hi hj e => ?_, fun k q hk => ?_⟩
  · obtain ⟨e1, h1⟩ := rt_same h hi
    obtain ⟨e2, h2⟩ := rt_same h hj
    exact hD.1 i j (p.1, e1) (q.1, e2) h1 h2 e
  · obtain ⟨e1, h1⟩ := rt_same h hk
    exact (hD.2 k (q.1, e1) h1 :)
theorem rt_cross {w1 w2 : va_W} {A : Nat → Prop} (h : va_D A (w1 ++ w2)) : ∀ (i j : Nat) (x y : Nat × va_E), w1[i]? = some x → w2[j]? = some y → x.1 ≠ y.1 := by
  intro i j x y hi hj e
  have hl := (List.getElem?_eq_some_iff.mp hi).1
  have h1 : (w1 ++ w2)[i]? = some x := by rw [List.getElem?_append_left hl]; exact hi
  have h2 : (w1 ++ w2)[w1.length + j]? = some y := by rw [List.getElem?_append_right (Nat.le_add_right _ _), Nat.add_sub_cancel_left]; exact hj
  have h3 := h.1 i _ x y h1 h2 e
  omega
theorem rt_other {W1 W2 : rt_St → va_W} (h2 : rt_Ok W2) (hcr : ∀ (i j : Nat) (x y : Nat × va_E), (W1 fun _ _ => 0)[i]? = some x → (W2 fun _ _ => 0)[j]? = some y → x.1 ≠ y.1) {D : va_G} {cl : List vw_C} {H H1 : Heap} {τ : rt_St} (hP : va_P D cl (W2 τ) H) (hk : ∀ q : Nat, q < H.size → ¬ rt_A W1 H.size q → H1[q]? = H[q]?) : va_P D cl (W2 τ) H1 :=
  hP.kept (fun k q hq => hk q.1 ((hP k q hq).lt) (fun h => by
    rcases h with ⟨k1, e1, g⟩ | g
    · obtain ⟨e2, h3⟩ := rt_same (h2.1 τ) hq
      exact hcr k1 k _ _ g h3 rfl
    · exact absurd ((hP k q hq).lt) (Nat.not_lt.mpr g)))
theorem rt_AA {Wl : rt_St → va_W} {s : State} {H : Heap} {locs : List Loc} (h : ∀ (k : Nat) (q : Nat × va_E), (Wl fun _ _ => 0)[k]? = some q → s.heap.size ≤ q.1) (hS : va_S (fun q => s.heap.size ≤ q) s.heap H locs) : ∀ q, rt_A Wl H.size q → s.heap.size ≤ q := fun q hq => by
  rcases hq with ⟨k, e, g⟩ | g
  · exact h k _ g
  · exact Nat.le_trans hS.1 g
theorem rt_end4 {L t : Nat} (hL : L ≤ 2048) (ht : t ≤ 512) : (Int32.ofNat L - 4 < nI (4 * t)) ↔ L < 4 * t + 4 := by
  rw [Int32.lt_iff_toInt_lt, nI_toInt (by omega)]
  have h := pk_sub_toInt (a := L) (b := 4) (by omega) (by omega)
  have e : (Int32.ofNat L - 4).toInt = (L : Int) - 4 := h
  rw [e]
  omega
theorem rt_rdx {L t j : Nat} {x : Int32} (hx : x = nI (4 * t + j)) (h : 4 * t + j < L) (hL : L ≤ 2048) : vp_in x L := by
  rw [hx]; exact vp_in_nI h (by omega)
set_option maxHeartbeats 4000000 in
set_option maxRecDepth 100000 in
theorem law_loop {p : Program} {e : Env} {s : State} {m : MethodId} {below : List Frame} {meth : Method} {c : Code} (l : Launch) {b L : Nat} {xs : Nat → Int32} (hL : L ≤ 2048) (C0 : lw_At p s m meth c b L xs) (D : va_G) (cI cZ : ClassId) (A B : Nat → Nat) (hK : va_K D rt_cl (rt_t cI cZ) s) (hOC : rt_Ok (rtC_W cI cZ A)) (hOR : rt_Ok (rtR_W cI cZ B)) (hcr : ∀ (i j : Nat) (x y : Nat × va_E), ((rtC_W cI cZ A) fun _ _ => 0)[i]? = some x → ((rtR_W cI cZ B) fun _ _ => 0)[j]? = some y → x.1 ≠ y.1) (hAC : ∀ (k : Nat) (q : Nat × va_E), ((rtC_W cI cZ A) fun _ _ => 0)[k]? = some q → s.heap.size ≤ q.1) (hAR : ∀ (k : Nat) (q : Nat × va_E), ((rtR_W cI cZ B) fun _ _ => 0)[k]? = some q → s.heap.size ≤ q.1) (hXs : rtC_X (fun q => s.heap.size ≤ q) s) (Rel : Nat → rt_St → rt_St → Prop) (T : Nat) (hT : T ≤ 512) (hTL : L < 4 * T + 4) (hst : rt_Step Rel T) : ∀ (n t : Nat), t + n = T → ∀ (σ τ : rt_St) (ls : Array Slot) (H : Heap) (locs : List Loc), Rel t σ τ → lv_has ls 4 [(3, .int (nI (4 * t))), (2, .ref (B 0)), (1, .ref (A 0)), (0, .ref b)] → va_P D rt_cl (rtC_W cI cZ A σ) H → va_P D rt_cl (rtR_W cI cZ B τ) H → va_S (fun q => s.heap.size ≤ q) s.heap H locs → W p l e room_1 s m #[Value.ref b] below meth c H locs 88 9455 (lw_Z below #[Value.ref b] s) (F0 m 18 ls []) := by
  obtain ⟨hx, hb, hr, hml, hown, hts0, hX, hbl, hlocks, hgv⟩ := C0
  have hbA : ¬ (fun q => s.heap.size ≤ q) b := Nat.not_le.mpr hbl
  have hcr2 : ∀ (i j : Nat) (x y : Nat × va_E), ((rtR_W cI cZ B) fun _ _ => 0)[i]? = some x → ((rtC_W cI cZ A) fun _ _ => 0)[j]? = some y → x.1 ≠ y.1 := fun i j x y h1 h2 h3 => hcr j i y x h2 h1 h3.symm
  have hts : ∀ w ∈ (Cond.arrayClass .int) :: rt_tbl, w.before #[Value.ref b] s = true := List.forall_mem_cons.mpr ⟨hts0 _ (List.mem_filter.mp rt_w200).1, fun w h => hts0 w (List.mem_filter.mp h).1⟩
  intro n
  induction n with
  | zero =>
    intro t ht σ τ ls H locs hRel hl hPC hPR hS
    refine lv_iload_n hx hb dL_18 rfl (lv_at hl 0 rfl) ?_
    refine lv_aload_n hx hb dL_19 rfl (lv_at hl 3 rfl) ?_
    refine va_slen hx hb hX hbl hbA hS dL_20 ?_
    refine lv_iconst (v := 4) hx hb dL_21 (by decide) ?_
    refine lv_isub hx hb dL_22 ?_
    refine lv_icmp_gt (tgt := 445) hx hb dL_23 (by decide) (fun hc => ?_) (fun hc => ?_)
    · refine lv_iconst (v := 1) hx hb dL_445 (by decide) ?_
      refine va_forget (fun q hq => hS.2.2 q hq) ?_
      exact lw_ret hx hb hr hlocks dL_446
    · exact absurd ((rt_end4 hL (by omega)).mpr (by omega)) hc
  | succ n ih =>
    intro t ht σ τ ls H locs hRel hl hPC hPR hS
    refine lv_iload_n hx hb dL_18 rfl (lv_at hl 0 rfl) ?_
    refine lv_aload_n hx hb dL_19 rfl (lv_at hl 3 rfl) ?_
    refine va_slen hx hb hX hbl hbA hS dL_20 ?_
    refine lv_iconst (v := 4) hx hb dL_21 (by decide) ?_
    refine lv_isub hx hb dL_22 ?_
    refine lv_icmp_gt (tgt := 445) hx hb dL_23 (by decide) (fun hc => ?_) (fun hc => ?_)
    · refine lv_iconst (v := 1) hx hb dL_445 (by decide) ?_
      refine va_forget (fun q hq => hS.2.2 q hq) ?_
      exact lw_ret hx hb hr hlocks dL_446
    · have h4 : 4 * t + 4 ≤ L := Nat.not_lt.mp (fun h => hc ((rt_end4 hL (by omega)).mpr h))
      obtain ⟨h_feed, h_load, h_place, h_input, h_run, h_outcome, h_output, h_memory, h_instruction, h_operand, h_local, h_cell, h_function, hdef⟩ := hst t (by omega) σ τ hRel
      refine lv_aload_n hx hb dL_26 rfl (lv_at hl 3 rfl) ?_
      refine lv_iload_n hx hb dL_27 rfl (lv_at hl 0 rfl) ?_
      refine va_sld hx hb hX hbl hbA hS (rt_rdx (t := t) (j := 0) rfl (by omega) hL) dL_28 ?_
      refine lv_bipush (v := 15) hx hb dL_29 (by decide) ?_
      refine lv_iand hx hb dL_31 ?_
      generalize xs (nI (4 * t)).toNatClampNeg &&& 15 = op
      have fin : ∀ (σ τ : rt_St) (H : Heap) (locs : List Loc), Rel (t + 1) σ τ → va_P D rt_cl (rtC_W cI cZ A σ) H → va_P D rt_cl (rtR_W cI cZ B τ) H → va_S (fun q => s.heap.size ≤ q) s.heap H locs → W p l e room_1 s m #[Value.ref b] below meth c H locs 88 9455 (lw_Z below #[Value.ref b] s) (F0 m 439 ls []) := by
        intro σ τ H locs hRel hPC hPR hS
        refine lv_iinc (k := 0) (v := nI (4 * (t + 1))) hx hb dL_439 hl rfl (by rw [Nat.mul_add]; exact nI_add (4 * t) 4) (by decide) rfl (fun ls hl => ?_)
        refine lv_goto (tgt := 18) hx hb dL_442 (by decide) ?_
        exact ih (t + 1) (by omega) σ τ ls H locs hRel hl hPC hPR hS
      by_cases c0 : op = 0
      · refine lv_tableIn (off := 68) (tgt := 100) hx hb dL_32 (by rw [c0]; decide) (by rw [c0]; decide) (by rw [c0]; rfl) (by decide) ?_
        obtain ⟨r, u, v, hC, hR, hnew⟩ := h_feed (xs (nI (4 * t) + 1).toNatClampNeg)
        refine lv_aload_n hx hb dL_100 rfl (lv_at hl 2 rfl) ?_
        refine lv_aload_n hx hb dL_101 rfl (lv_at hl 3 rfl) ?_
        refine lv_iload_n hx hb dL_102 rfl (lv_at hl 0 rfl) ?_
        refine lv_iconst (v := 1) hx hb dL_103 (by decide) ?_
        refine lv_iadd hx hb dL_104 ?_
        refine va_sld hx hb hX hbl hbA hS (rt_rdx (t := t) (j := 1) (nI_add (4 * t) 1) (by omega) hL) dL_105 ?_
        refine rt_lvi (As := [.int (xs (nI (4 * t) + 1).toNatClampNeg)]) (rest := []) (k := 0) rtC_Xo ⟨hx, hb, hml, hown, hts⟩ (k_C_RangeTeller_feed l D cI cZ A hOC σ (xs (nI (4 * t) + 1).toNatClampNeg) r u hC) (cw_RangeTeller_feed hts (hts _ (rt_m rt_w400)) ⟨Nat.le_of_ble_eq_true rfl, Nat.le_of_ble_eq_true rfl⟩) hK hPC hS (rt_AA hAC hS) hXs rfl rfl rfl hl.1 rfl (Nat.le_of_ble_eq_true rfl) dL_106 ⟨Nat.le_of_ble_eq_true rfl, Nat.le_of_ble_eq_true rfl⟩ (fun H1 locs h1 hk hz hS => ?_)
        have hPR := rt_other hOR hcr hPR hk
        have hPC := h1
        clear h1 hk hz
        refine lv_aload_n hx hb dL_109 rfl (lv_at hl 1 rfl) ?_
        refine lv_aload_n hx hb dL_110 rfl (lv_at hl 3 rfl) ?_
        refine lv_iload_n hx hb dL_111 rfl (lv_at hl 0 rfl) ?_
        refine lv_iconst (v := 1) hx hb dL_112 (by decide) ?_
        refine lv_iadd hx hb dL_113 ?_
        refine va_sld hx hb hX hbl hbA hS (rt_rdx (t := t) (j := 1) (nI_add (4 * t) 1) (by omega) hL) dL_114 ?_
        refine rt_lvi (As := [.int (xs (nI (4 * t) + 1).toNatClampNeg)]) (rest := [.int r]) (k := 0) rtR_Xo ⟨hx, hb, hml, hown, hts⟩ (k_R_RangeTellerModel_feed l D cI cZ B hOR τ (xs (nI (4 * t) + 1).toNatClampNeg) r v hR) (cw_RangeTellerModel_feed hts (hts _ (rt_m rt_w1055)) ⟨Nat.le_of_ble_eq_true rfl, Nat.le_of_ble_eq_true rfl⟩) hK hPR hS (rt_AA hAR hS) trivial rfl rfl rfl hl.1 rfl (Nat.le_of_ble_eq_true rfl) dL_115 ⟨Nat.le_of_ble_eq_true rfl, Nat.le_of_ble_eq_true rfl⟩ (fun H1 locs h1 hk hz hS => ?_)
        have hPC := rt_other hOC hcr2 hPC hk
        have hPR := h1
        clear h1 hk hz
        refine lv_icmp_eq (tgt := 439) hx hb dL_118 (by decide) (fun _ => ?_) (fun hne => absurd rfl hne)
        exact fin u v _ _ hnew hPC hPR hS
      by_cases c1 : op = 1
      · refine lv_tableIn (off := 91) (tgt := 123) hx hb dL_32 (by rw [c1]; decide) (by rw [c1]; decide) (by rw [c1]; rfl) (by decide) ?_
        obtain ⟨r, u, v, hC, hR, hnew⟩ := h_load
        refine lv_aload_n hx hb dL_123 rfl (lv_at hl 2 rfl) ?_
        refine rt_lvi (As := []) (rest := []) (k := 0) rtC_Xo ⟨hx, hb, hml, hown, hts⟩ (k_C_RangeTeller_load l D cI cZ A hOC σ r u hC) (cw_RangeTeller_load hts (hts _ (rt_m rt_w408)) ⟨Nat.le_of_ble_eq_true rfl, Nat.le_of_ble_eq_true rfl⟩) hK hPC hS (rt_AA hAC hS) hXs rfl rfl rfl hl.1 rfl (Nat.le_of_ble_eq_true rfl) dL_124 ⟨Nat.le_of_ble_eq_true rfl, Nat.le_of_ble_eq_true rfl⟩ (fun H1 locs h1 hk hz hS => ?_)
        have hPR := rt_other hOR hcr hPR hk
        have hPC := h1
        clear h1 hk hz
        refine lv_aload_n hx hb dL_127 rfl (lv_at hl 1 rfl) ?_
        refine rt_lvi (As := []) (rest := [.int r]) (k := 0) rtR_Xo ⟨hx, hb, hml, hown, hts⟩ (k_R_RangeTellerModel_load l D cI cZ B hOR τ r v hR) (cw_RangeTellerModel_load hts (hts _ (rt_m rt_w1059)) ⟨Nat.le_of_ble_eq_true rfl, Nat.le_of_ble_eq_true rfl⟩) hK hPR hS (rt_AA hAR hS) trivial rfl rfl rfl hl.1 rfl (Nat.le_of_ble_eq_true rfl) dL_128 ⟨Nat.le_of_ble_eq_true rfl, Nat.le_of_ble_eq_true rfl⟩ (fun H1 locs h1 hk hz hS => ?_)
        have hPC := rt_other hOC hcr2 hPC hk
        have hPR := h1
        clear h1 hk hz
        refine lv_icmp_eq (tgt := 439) hx hb dL_131 (by decide) (fun _ => ?_) (fun hne => absurd rfl hne)
        exact fin u v _ _ hnew hPC hPR hS
      by_cases c2 : op = 2
      · refine lv_tableIn (off := 104) (tgt := 136) hx hb dL_32 (by rw [c2]; decide) (by rw [c2]; decide) (by rw [c2]; rfl) (by decide) ?_
        obtain ⟨r, u, v, hC, hR, hnew⟩ := h_place
        refine lv_aload_n hx hb dL_136 rfl (lv_at hl 2 rfl) ?_
        refine rt_lvi (As := []) (rest := []) (k := 0) rtC_Xo ⟨hx, hb, hml, hown, hts⟩ (k_C_RangeTeller_place l D cI cZ A hOC σ r u hC) (cw_RangeTeller_place hts (hts _ (rt_m rt_w698)) ⟨Nat.le_of_ble_eq_true rfl, Nat.le_of_ble_eq_true rfl⟩) hK hPC hS (rt_AA hAC hS) hXs rfl rfl rfl hl.1 rfl (Nat.le_of_ble_eq_true rfl) dL_137 ⟨Nat.le_of_ble_eq_true rfl, Nat.le_of_ble_eq_true rfl⟩ (fun H1 locs h1 hk hz hS => ?_)
        have hPR := rt_other hOR hcr hPR hk
        have hPC := h1
        clear h1 hk hz
        refine lv_aload_n hx hb dL_140 rfl (lv_at hl 1 rfl) ?_
        refine rt_lvi (As := []) (rest := [.int r]) (k := 0) rtR_Xo ⟨hx, hb, hml, hown, hts⟩ (k_R_RangeTellerModel_place l D cI cZ B hOR τ r v hR) (cw_RangeTellerModel_place hts (hts _ (rt_m rt_w1200)) ⟨Nat.le_of_ble_eq_true rfl, Nat.le_of_ble_eq_true rfl⟩) hK hPR hS (rt_AA hAR hS) trivial rfl rfl rfl hl.1 rfl (Nat.le_of_ble_eq_true rfl) dL_141 ⟨Nat.le_of_ble_eq_true rfl, Nat.le_of_ble_eq_true rfl⟩ (fun H1 locs h1 hk hz hS => ?_)
        have hPC := rt_other hOC hcr2 hPC hk
        have hPR := h1
        clear h1 hk hz
        refine lv_icmp_eq (tgt := 439) hx hb dL_144 (by decide) (fun _ => ?_) (fun hne => absurd rfl hne)
        exact fin u v _ _ hnew hPC hPR hS
      by_cases c3 : op = 3
      · refine lv_tableIn (off := 117) (tgt := 149) hx hb dL_32 (by rw [c3]; decide) (by rw [c3]; decide) (by rw [c3]; rfl) (by decide) ?_
        obtain ⟨r, u, v, hC, hR, hnew⟩ := h_input (xs (nI (4 * t) + 1).toNatClampNeg)
        refine lv_aload_n hx hb dL_149 rfl (lv_at hl 2 rfl) ?_
        refine lv_aload_n hx hb dL_150 rfl (lv_at hl 3 rfl) ?_
        refine lv_iload_n hx hb dL_151 rfl (lv_at hl 0 rfl) ?_
        refine lv_iconst (v := 1) hx hb dL_152 (by decide) ?_
        refine lv_iadd hx hb dL_153 ?_
        refine va_sld hx hb hX hbl hbA hS (rt_rdx (t := t) (j := 1) (nI_add (4 * t) 1) (by omega) hL) dL_154 ?_
        refine rt_lvi (As := [.int (xs (nI (4 * t) + 1).toNatClampNeg)]) (rest := []) (k := 0) rtC_Xo ⟨hx, hb, hml, hown, hts⟩ (k_C_RangeTeller_input l D cI cZ A hOC σ (xs (nI (4 * t) + 1).toNatClampNeg) r u hC) (cw_RangeTeller_input hts (hts _ (rt_m rt_w702)) ⟨Nat.le_of_ble_eq_true rfl, Nat.le_of_ble_eq_true rfl⟩) hK hPC hS (rt_AA hAC hS) hXs rfl rfl rfl hl.1 rfl (Nat.le_of_ble_eq_true rfl) dL_155 ⟨Nat.le_of_ble_eq_true rfl, Nat.le_of_ble_eq_true rfl⟩ (fun H1 locs h1 hk hz hS => ?_)
        have hPR := rt_other hOR hcr hPR hk
        have hPC := h1
        clear h1 hk hz
        refine lv_aload_n hx hb dL_158 rfl (lv_at hl 1 rfl) ?_
        refine lv_aload_n hx hb dL_159 rfl (lv_at hl 3 rfl) ?_
        refine lv_iload_n hx hb dL_160 rfl (lv_at hl 0 rfl) ?_
        refine lv_iconst (v := 1) hx hb dL_161 (by decide) ?_
        refine lv_iadd hx hb dL_162 ?_
        refine va_sld hx hb hX hbl hbA hS (rt_rdx (t := t) (j := 1) (nI_add (4 * t) 1) (by omega) hL) dL_163 ?_
        refine rt_lvi (As := [.int (xs (nI (4 * t) + 1).toNatClampNeg)]) (rest := [.int r]) (k := 0) rtR_Xo ⟨hx, hb, hml, hown, hts⟩ (k_R_RangeTellerModel_input l D cI cZ B hOR τ (xs (nI (4 * t) + 1).toNatClampNeg) r v hR) (cw_RangeTellerModel_input hts (hts _ (rt_m rt_w1204)) ⟨Nat.le_of_ble_eq_true rfl, Nat.le_of_ble_eq_true rfl⟩) hK hPR hS (rt_AA hAR hS) trivial rfl rfl rfl hl.1 rfl (Nat.le_of_ble_eq_true rfl) dL_164 ⟨Nat.le_of_ble_eq_true rfl, Nat.le_of_ble_eq_true rfl⟩ (fun H1 locs h1 hk hz hS => ?_)
        have hPC := rt_other hOC hcr2 hPC hk
        have hPR := h1
        clear h1 hk hz
        refine lv_icmp_eq (tgt := 439) hx hb dL_167 (by decide) (fun _ => ?_) (fun hne => absurd rfl hne)
        exact fin u v _ _ hnew hPC hPR hS
      by_cases c4 : op = 4
      · refine lv_tableIn (off := 140) (tgt := 172) hx hb dL_32 (by rw [c4]; decide) (by rw [c4]; decide) (by rw [c4]; rfl) (by decide) ?_
        obtain ⟨r, u, v, hC, hR, hnew⟩ := h_run (xs (nI (4 * t) + 1).toNatClampNeg) (xs (nI (4 * t) + 2).toNatClampNeg) (xs (nI (4 * t) + 3).toNatClampNeg)
        refine lv_aload_n hx hb dL_172 rfl (lv_at hl 2 rfl) ?_
        refine lv_aload_n hx hb dL_173 rfl (lv_at hl 3 rfl) ?_
        refine lv_iload_n hx hb dL_174 rfl (lv_at hl 0 rfl) ?_
        refine lv_iconst (v := 1) hx hb dL_175 (by decide) ?_
        refine lv_iadd hx hb dL_176 ?_
        refine va_sld hx hb hX hbl hbA hS (rt_rdx (t := t) (j := 1) (nI_add (4 * t) 1) (by omega) hL) dL_177 ?_
        refine lv_aload_n hx hb dL_178 rfl (lv_at hl 3 rfl) ?_
        refine lv_iload_n hx hb dL_179 rfl (lv_at hl 0 rfl) ?_
        refine lv_iconst (v := 2) hx hb dL_180 (by decide) ?_
        refine lv_iadd hx hb dL_181 ?_
        refine va_sld hx hb hX hbl hbA hS (rt_rdx (t := t) (j := 2) (nI_add (4 * t) 2) (by omega) hL) dL_182 ?_
        refine lv_aload_n hx hb dL_183 rfl (lv_at hl 3 rfl) ?_
        refine lv_iload_n hx hb dL_184 rfl (lv_at hl 0 rfl) ?_
        refine lv_iconst (v := 3) hx hb dL_185 (by decide) ?_
        refine lv_iadd hx hb dL_186 ?_
        refine va_sld hx hb hX hbl hbA hS (rt_rdx (t := t) (j := 3) (nI_add (4 * t) 3) (by omega) hL) dL_187 ?_
        refine rt_lvi (As := [.int (xs (nI (4 * t) + 1).toNatClampNeg), .int (xs (nI (4 * t) + 2).toNatClampNeg), .int (xs (nI (4 * t) + 3).toNatClampNeg)]) (rest := []) (k := 0) rtC_Xo ⟨hx, hb, hml, hown, hts⟩ (k_C_RangeTeller_run l D cI cZ A hOC σ (xs (nI (4 * t) + 1).toNatClampNeg) (xs (nI (4 * t) + 2).toNatClampNeg) (xs (nI (4 * t) + 3).toNatClampNeg) r u hC) (cw_RangeTeller_run hts (hts _ (rt_m rt_w710)) ⟨Nat.le_of_ble_eq_true rfl, Nat.le_of_ble_eq_true rfl⟩) hK hPC hS (rt_AA hAC hS) hXs rfl rfl rfl hl.1 rfl (Nat.le_of_ble_eq_true rfl) dL_188 ⟨Nat.le_of_ble_eq_true rfl, Nat.le_of_ble_eq_true rfl⟩ (fun H1 locs h1 hk hz hS => ?_)
        have hPR := rt_other hOR hcr hPR hk
        have hPC := h1
        clear h1 hk hz
        refine lv_aload_n hx hb dL_191 rfl (lv_at hl 1 rfl) ?_
        refine lv_aload_n hx hb dL_192 rfl (lv_at hl 3 rfl) ?_
        refine lv_iload_n hx hb dL_193 rfl (lv_at hl 0 rfl) ?_
        refine lv_iconst (v := 1) hx hb dL_194 (by decide) ?_
        refine lv_iadd hx hb dL_195 ?_
        refine va_sld hx hb hX hbl hbA hS (rt_rdx (t := t) (j := 1) (nI_add (4 * t) 1) (by omega) hL) dL_196 ?_
        refine lv_aload_n hx hb dL_197 rfl (lv_at hl 3 rfl) ?_
        refine lv_iload_n hx hb dL_198 rfl (lv_at hl 0 rfl) ?_
        refine lv_iconst (v := 2) hx hb dL_199 (by decide) ?_
        refine lv_iadd hx hb dL_200 ?_
        refine va_sld hx hb hX hbl hbA hS (rt_rdx (t := t) (j := 2) (nI_add (4 * t) 2) (by omega) hL) dL_201 ?_
        refine lv_aload_n hx hb dL_202 rfl (lv_at hl 3 rfl) ?_
        refine lv_iload_n hx hb dL_203 rfl (lv_at hl 0 rfl) ?_
        refine lv_iconst (v := 3) hx hb dL_204 (by decide) ?_
        refine lv_iadd hx hb dL_205 ?_
        refine va_sld hx hb hX hbl hbA hS (rt_rdx (t := t) (j := 3) (nI_add (4 * t) 3) (by omega) hL) dL_206 ?_
        refine rt_lvi (As := [.int (xs (nI (4 * t) + 1).toNatClampNeg), .int (xs (nI (4 * t) + 2).toNatClampNeg), .int (xs (nI (4 * t) + 3).toNatClampNeg)]) (rest := [.int r]) (k := 0) rtR_Xo ⟨hx, hb, hml, hown, hts⟩ (k_R_RangeTellerModel_run l D cI cZ B hOR τ (xs (nI (4 * t) + 1).toNatClampNeg) (xs (nI (4 * t) + 2).toNatClampNeg) (xs (nI (4 * t) + 3).toNatClampNeg) r v hR) (cw_RangeTellerModel_run hts (hts _ (rt_m rt_w1208)) ⟨Nat.le_of_ble_eq_true rfl, Nat.le_of_ble_eq_true rfl⟩) hK hPR hS (rt_AA hAR hS) trivial rfl rfl rfl hl.1 rfl (Nat.le_of_ble_eq_true rfl) dL_207 ⟨Nat.le_of_ble_eq_true rfl, Nat.le_of_ble_eq_true rfl⟩ (fun H1 locs h1 hk hz hS => ?_)
        have hPC := rt_other hOC hcr2 hPC hk
        have hPR := h1
        clear h1 hk hz
        refine lv_icmp_eq (tgt := 439) hx hb dL_210 (by decide) (fun _ => ?_) (fun hne => absurd rfl hne)
        exact fin u v _ _ hnew hPC hPR hS
      by_cases c5 : op = 5
      · refine lv_tableIn (off := 183) (tgt := 215) hx hb dL_32 (by rw [c5]; decide) (by rw [c5]; decide) (by rw [c5]; rfl) (by decide) ?_
        obtain ⟨r, u, v, hC, hR, hnew⟩ := h_outcome (xs (nI (4 * t) + 1).toNatClampNeg)
        refine lv_aload_n hx hb dL_215 rfl (lv_at hl 2 rfl) ?_
        refine lv_aload_n hx hb dL_216 rfl (lv_at hl 3 rfl) ?_
        refine lv_iload_n hx hb dL_217 rfl (lv_at hl 0 rfl) ?_
        refine lv_iconst (v := 1) hx hb dL_218 (by decide) ?_
        refine lv_iadd hx hb dL_219 ?_
        refine va_sld hx hb hX hbl hbA hS (rt_rdx (t := t) (j := 1) (nI_add (4 * t) 1) (by omega) hL) dL_220 ?_
        refine rt_lvi (As := [.int (xs (nI (4 * t) + 1).toNatClampNeg)]) (rest := []) (k := 0) rtC_Xo ⟨hx, hb, hml, hown, hts⟩ (k_C_RangeTeller_outcome l D cI cZ A hOC σ (xs (nI (4 * t) + 1).toNatClampNeg) r u hC) (cw_RangeTeller_outcome hts (hts _ (rt_m rt_w789)) ⟨Nat.le_of_ble_eq_true rfl, Nat.le_of_ble_eq_true rfl⟩) hK hPC hS (rt_AA hAC hS) hXs rfl rfl rfl hl.1 rfl (Nat.le_of_ble_eq_true rfl) dL_221 ⟨Nat.le_of_ble_eq_true rfl, Nat.le_of_ble_eq_true rfl⟩ (fun H1 locs h1 hk hz hS => ?_)
        have hPR := rt_other hOR hcr hPR hk
        have hPC := h1
        clear h1 hk hz
        refine lv_aload_n hx hb dL_224 rfl (lv_at hl 1 rfl) ?_
        refine lv_aload_n hx hb dL_225 rfl (lv_at hl 3 rfl) ?_
        refine lv_iload_n hx hb dL_226 rfl (lv_at hl 0 rfl) ?_
        refine lv_iconst (v := 1) hx hb dL_227 (by decide) ?_
        refine lv_iadd hx hb dL_228 ?_
        refine va_sld hx hb hX hbl hbA hS (rt_rdx (t := t) (j := 1) (nI_add (4 * t) 1) (by omega) hL) dL_229 ?_
        refine rt_lvi (As := [.int (xs (nI (4 * t) + 1).toNatClampNeg)]) (rest := [.int r]) (k := 0) rtR_Xo ⟨hx, hb, hml, hown, hts⟩ (k_R_RangeTellerModel_outcome l D cI cZ B hOR τ (xs (nI (4 * t) + 1).toNatClampNeg) r v hR) (cw_RangeTellerModel_outcome hts (hts _ (rt_m rt_w1244)) ⟨Nat.le_of_ble_eq_true rfl, Nat.le_of_ble_eq_true rfl⟩) hK hPR hS (rt_AA hAR hS) trivial rfl rfl rfl hl.1 rfl (Nat.le_of_ble_eq_true rfl) dL_230 ⟨Nat.le_of_ble_eq_true rfl, Nat.le_of_ble_eq_true rfl⟩ (fun H1 locs h1 hk hz hS => ?_)
        have hPC := rt_other hOC hcr2 hPC hk
        have hPR := h1
        clear h1 hk hz
        refine lv_icmp_eq (tgt := 439) hx hb dL_233 (by decide) (fun _ => ?_) (fun hne => absurd rfl hne)
        exact fin u v _ _ hnew hPC hPR hS
      by_cases c6 : op = 6
      · refine lv_tableIn (off := 206) (tgt := 238) hx hb dL_32 (by rw [c6]; decide) (by rw [c6]; decide) (by rw [c6]; rfl) (by decide) ?_
        obtain ⟨r, u, v, hC, hR, hnew⟩ := h_output (xs (nI (4 * t) + 1).toNatClampNeg)
        refine lv_aload_n hx hb dL_238 rfl (lv_at hl 2 rfl) ?_
        refine lv_aload_n hx hb dL_239 rfl (lv_at hl 3 rfl) ?_
        refine lv_iload_n hx hb dL_240 rfl (lv_at hl 0 rfl) ?_
        refine lv_iconst (v := 1) hx hb dL_241 (by decide) ?_
        refine lv_iadd hx hb dL_242 ?_
        refine va_sld hx hb hX hbl hbA hS (rt_rdx (t := t) (j := 1) (nI_add (4 * t) 1) (by omega) hL) dL_243 ?_
        refine rt_lvi (As := [.int (xs (nI (4 * t) + 1).toNatClampNeg)]) (rest := []) (k := 0) rtC_Xo ⟨hx, hb, hml, hown, hts⟩ (k_C_RangeTeller_output l D cI cZ A hOC σ (xs (nI (4 * t) + 1).toNatClampNeg) r u hC) (cw_RangeTeller_output hts (hts _ (rt_m rt_w793)) ⟨Nat.le_of_ble_eq_true rfl, Nat.le_of_ble_eq_true rfl⟩) hK hPC hS (rt_AA hAC hS) hXs rfl rfl rfl hl.1 rfl (Nat.le_of_ble_eq_true rfl) dL_244 ⟨Nat.le_of_ble_eq_true rfl, Nat.le_of_ble_eq_true rfl⟩ (fun H1 locs h1 hk hz hS => ?_)
        have hPR := rt_other hOR hcr hPR hk
        have hPC := h1
        clear h1 hk hz
        refine lv_aload_n hx hb dL_247 rfl (lv_at hl 1 rfl) ?_
        refine lv_aload_n hx hb dL_248 rfl (lv_at hl 3 rfl) ?_
        refine lv_iload_n hx hb dL_249 rfl (lv_at hl 0 rfl) ?_
        refine lv_iconst (v := 1) hx hb dL_250 (by decide) ?_
        refine lv_iadd hx hb dL_251 ?_
        refine va_sld hx hb hX hbl hbA hS (rt_rdx (t := t) (j := 1) (nI_add (4 * t) 1) (by omega) hL) dL_252 ?_
        refine rt_lvi (As := [.int (xs (nI (4 * t) + 1).toNatClampNeg)]) (rest := [.int r]) (k := 0) rtR_Xo ⟨hx, hb, hml, hown, hts⟩ (k_R_RangeTellerModel_output l D cI cZ B hOR τ (xs (nI (4 * t) + 1).toNatClampNeg) r v hR) (cw_RangeTellerModel_output hts (hts _ (rt_m rt_w1248)) ⟨Nat.le_of_ble_eq_true rfl, Nat.le_of_ble_eq_true rfl⟩) hK hPR hS (rt_AA hAR hS) trivial rfl rfl rfl hl.1 rfl (Nat.le_of_ble_eq_true rfl) dL_253 ⟨Nat.le_of_ble_eq_true rfl, Nat.le_of_ble_eq_true rfl⟩ (fun H1 locs h1 hk hz hS => ?_)
        have hPC := rt_other hOC hcr2 hPC hk
        have hPR := h1
        clear h1 hk hz
        refine lv_icmp_eq (tgt := 439) hx hb dL_256 (by decide) (fun _ => ?_) (fun hne => absurd rfl hne)
        exact fin u v _ _ hnew hPC hPR hS
      by_cases c7 : op = 7
      · refine lv_tableIn (off := 229) (tgt := 261) hx hb dL_32 (by rw [c7]; decide) (by rw [c7]; decide) (by rw [c7]; rfl) (by decide) ?_
        obtain ⟨r, u, v, hC, hR, hnew⟩ := h_memory (xs (nI (4 * t) + 1).toNatClampNeg)
        refine lv_aload_n hx hb dL_261 rfl (lv_at hl 2 rfl) ?_
        refine lv_aload_n hx hb dL_262 rfl (lv_at hl 3 rfl) ?_
        refine lv_iload_n hx hb dL_263 rfl (lv_at hl 0 rfl) ?_
        refine lv_iconst (v := 1) hx hb dL_264 (by decide) ?_
        refine lv_iadd hx hb dL_265 ?_
        refine va_sld hx hb hX hbl hbA hS (rt_rdx (t := t) (j := 1) (nI_add (4 * t) 1) (by omega) hL) dL_266 ?_
        refine rt_lvi (As := [.int (xs (nI (4 * t) + 1).toNatClampNeg)]) (rest := []) (k := 0) rtC_Xo ⟨hx, hb, hml, hown, hts⟩ (k_C_RangeTeller_memory l D cI cZ A hOC σ (xs (nI (4 * t) + 1).toNatClampNeg) r u hC) (cw_RangeTeller_memory hts (hts _ (rt_m rt_w797)) ⟨Nat.le_of_ble_eq_true rfl, Nat.le_of_ble_eq_true rfl⟩) hK hPC hS (rt_AA hAC hS) hXs rfl rfl rfl hl.1 rfl (Nat.le_of_ble_eq_true rfl) dL_267 ⟨Nat.le_of_ble_eq_true rfl, Nat.le_of_ble_eq_true rfl⟩ (fun H1 locs h1 hk hz hS => ?_)
        have hPR := rt_other hOR hcr hPR hk
        have hPC := h1
        clear h1 hk hz
        refine lv_aload_n hx hb dL_270 rfl (lv_at hl 1 rfl) ?_
        refine lv_aload_n hx hb dL_271 rfl (lv_at hl 3 rfl) ?_
        refine lv_iload_n hx hb dL_272 rfl (lv_at hl 0 rfl) ?_
        refine lv_iconst (v := 1) hx hb dL_273 (by decide) ?_
        refine lv_iadd hx hb dL_274 ?_
        refine va_sld hx hb hX hbl hbA hS (rt_rdx (t := t) (j := 1) (nI_add (4 * t) 1) (by omega) hL) dL_275 ?_
        refine rt_lvi (As := [.int (xs (nI (4 * t) + 1).toNatClampNeg)]) (rest := [.int r]) (k := 0) rtR_Xo ⟨hx, hb, hml, hown, hts⟩ (k_R_RangeTellerModel_memory l D cI cZ B hOR τ (xs (nI (4 * t) + 1).toNatClampNeg) r v hR) (cw_RangeTellerModel_memory hts (hts _ (rt_m rt_w1252)) ⟨Nat.le_of_ble_eq_true rfl, Nat.le_of_ble_eq_true rfl⟩) hK hPR hS (rt_AA hAR hS) trivial rfl rfl rfl hl.1 rfl (Nat.le_of_ble_eq_true rfl) dL_276 ⟨Nat.le_of_ble_eq_true rfl, Nat.le_of_ble_eq_true rfl⟩ (fun H1 locs h1 hk hz hS => ?_)
        have hPC := rt_other hOC hcr2 hPC hk
        have hPR := h1
        clear h1 hk hz
        refine lv_icmp_eq (tgt := 439) hx hb dL_279 (by decide) (fun _ => ?_) (fun hne => absurd rfl hne)
        exact fin u v _ _ hnew hPC hPR hS
      by_cases c8 : op = 8
      · refine lv_tableIn (off := 252) (tgt := 284) hx hb dL_32 (by rw [c8]; decide) (by rw [c8]; decide) (by rw [c8]; rfl) (by decide) ?_
        obtain ⟨r, u, v, hC, hR, hnew⟩ := h_instruction (xs (nI (4 * t) + 1).toNatClampNeg) (xs (nI (4 * t) + 2).toNatClampNeg)
        refine lv_aload_n hx hb dL_284 rfl (lv_at hl 2 rfl) ?_
        refine lv_aload_n hx hb dL_285 rfl (lv_at hl 3 rfl) ?_
        refine lv_iload_n hx hb dL_286 rfl (lv_at hl 0 rfl) ?_
        refine lv_iconst (v := 1) hx hb dL_287 (by decide) ?_
        refine lv_iadd hx hb dL_288 ?_
        refine va_sld hx hb hX hbl hbA hS (rt_rdx (t := t) (j := 1) (nI_add (4 * t) 1) (by omega) hL) dL_289 ?_
        refine lv_aload_n hx hb dL_290 rfl (lv_at hl 3 rfl) ?_
        refine lv_iload_n hx hb dL_291 rfl (lv_at hl 0 rfl) ?_
        refine lv_iconst (v := 2) hx hb dL_292 (by decide) ?_
        refine lv_iadd hx hb dL_293 ?_
        refine va_sld hx hb hX hbl hbA hS (rt_rdx (t := t) (j := 2) (nI_add (4 * t) 2) (by omega) hL) dL_294 ?_
        refine rt_lvi (As := [.int (xs (nI (4 * t) + 1).toNatClampNeg), .int (xs (nI (4 * t) + 2).toNatClampNeg)]) (rest := []) (k := 0) rtC_Xo ⟨hx, hb, hml, hown, hts⟩ (k_C_RangeTeller_instruction l D cI cZ A hOC σ (xs (nI (4 * t) + 1).toNatClampNeg) (xs (nI (4 * t) + 2).toNatClampNeg) r u hC) (cw_RangeTeller_instruction hts (hts _ (rt_m rt_w801)) ⟨Nat.le_of_ble_eq_true rfl, Nat.le_of_ble_eq_true rfl⟩) hK hPC hS (rt_AA hAC hS) hXs rfl rfl rfl hl.1 rfl (Nat.le_of_ble_eq_true rfl) dL_295 ⟨Nat.le_of_ble_eq_true rfl, Nat.le_of_ble_eq_true rfl⟩ (fun H1 locs h1 hk hz hS => ?_)
        have hPR := rt_other hOR hcr hPR hk
        have hPC := h1
        clear h1 hk hz
        refine lv_aload_n hx hb dL_298 rfl (lv_at hl 1 rfl) ?_
        refine lv_aload_n hx hb dL_299 rfl (lv_at hl 3 rfl) ?_
        refine lv_iload_n hx hb dL_300 rfl (lv_at hl 0 rfl) ?_
        refine lv_iconst (v := 1) hx hb dL_301 (by decide) ?_
        refine lv_iadd hx hb dL_302 ?_
        refine va_sld hx hb hX hbl hbA hS (rt_rdx (t := t) (j := 1) (nI_add (4 * t) 1) (by omega) hL) dL_303 ?_
        refine lv_aload_n hx hb dL_304 rfl (lv_at hl 3 rfl) ?_
        refine lv_iload_n hx hb dL_305 rfl (lv_at hl 0 rfl) ?_
        refine lv_iconst (v := 2) hx hb dL_306 (by decide) ?_
        refine lv_iadd hx hb dL_307 ?_
        refine va_sld hx hb hX hbl hbA hS (rt_rdx (t := t) (j := 2) (nI_add (4 * t) 2) (by omega) hL) dL_308 ?_
        refine rt_lvi (As := [.int (xs (nI (4 * t) + 1).toNatClampNeg), .int (xs (nI (4 * t) + 2).toNatClampNeg)]) (rest := [.int r]) (k := 0) rtR_Xo ⟨hx, hb, hml, hown, hts⟩ (k_R_RangeTellerModel_instruction l D cI cZ B hOR τ (xs (nI (4 * t) + 1).toNatClampNeg) (xs (nI (4 * t) + 2).toNatClampNeg) r v hR) (cw_RangeTellerModel_instruction hts (hts _ (rt_m rt_w1256)) ⟨Nat.le_of_ble_eq_true rfl, Nat.le_of_ble_eq_true rfl⟩) hK hPR hS (rt_AA hAR hS) trivial rfl rfl rfl hl.1 rfl (Nat.le_of_ble_eq_true rfl) dL_309 ⟨Nat.le_of_ble_eq_true rfl, Nat.le_of_ble_eq_true rfl⟩ (fun H1 locs h1 hk hz hS => ?_)
        have hPC := rt_other hOC hcr2 hPC hk
        have hPR := h1
        clear h1 hk hz
        refine lv_icmp_eq (tgt := 439) hx hb dL_312 (by decide) (fun _ => ?_) (fun hne => absurd rfl hne)
        exact fin u v _ _ hnew hPC hPR hS
      by_cases c9 : op = 9
      · refine lv_tableIn (off := 285) (tgt := 317) hx hb dL_32 (by rw [c9]; decide) (by rw [c9]; decide) (by rw [c9]; rfl) (by decide) ?_
        obtain ⟨r, u, v, hC, hR, hnew⟩ := h_operand (xs (nI (4 * t) + 1).toNatClampNeg) (xs (nI (4 * t) + 2).toNatClampNeg)
        refine lv_aload_n hx hb dL_317 rfl (lv_at hl 2 rfl) ?_
        refine lv_aload_n hx hb dL_318 rfl (lv_at hl 3 rfl) ?_
        refine lv_iload_n hx hb dL_319 rfl (lv_at hl 0 rfl) ?_
        refine lv_iconst (v := 1) hx hb dL_320 (by decide) ?_
        refine lv_iadd hx hb dL_321 ?_
        refine va_sld hx hb hX hbl hbA hS (rt_rdx (t := t) (j := 1) (nI_add (4 * t) 1) (by omega) hL) dL_322 ?_
        refine lv_aload_n hx hb dL_323 rfl (lv_at hl 3 rfl) ?_
        refine lv_iload_n hx hb dL_324 rfl (lv_at hl 0 rfl) ?_
        refine lv_iconst (v := 2) hx hb dL_325 (by decide) ?_
        refine lv_iadd hx hb dL_326 ?_
        refine va_sld hx hb hX hbl hbA hS (rt_rdx (t := t) (j := 2) (nI_add (4 * t) 2) (by omega) hL) dL_327 ?_
        refine rt_lvi (As := [.int (xs (nI (4 * t) + 1).toNatClampNeg), .int (xs (nI (4 * t) + 2).toNatClampNeg)]) (rest := []) (k := 0) rtC_Xo ⟨hx, hb, hml, hown, hts⟩ (k_C_RangeTeller_operand l D cI cZ A hOC σ (xs (nI (4 * t) + 1).toNatClampNeg) (xs (nI (4 * t) + 2).toNatClampNeg) r u hC) (cw_RangeTeller_operand hts (hts _ (rt_m rt_w820)) ⟨Nat.le_of_ble_eq_true rfl, Nat.le_of_ble_eq_true rfl⟩) hK hPC hS (rt_AA hAC hS) hXs rfl rfl rfl hl.1 rfl (Nat.le_of_ble_eq_true rfl) dL_328 ⟨Nat.le_of_ble_eq_true rfl, Nat.le_of_ble_eq_true rfl⟩ (fun H1 locs h1 hk hz hS => ?_)
        have hPR := rt_other hOR hcr hPR hk
        have hPC := h1
        clear h1 hk hz
        refine lv_aload_n hx hb dL_331 rfl (lv_at hl 1 rfl) ?_
        refine lv_aload_n hx hb dL_332 rfl (lv_at hl 3 rfl) ?_
        refine lv_iload_n hx hb dL_333 rfl (lv_at hl 0 rfl) ?_
        refine lv_iconst (v := 1) hx hb dL_334 (by decide) ?_
        refine lv_iadd hx hb dL_335 ?_
        refine va_sld hx hb hX hbl hbA hS (rt_rdx (t := t) (j := 1) (nI_add (4 * t) 1) (by omega) hL) dL_336 ?_
        refine lv_aload_n hx hb dL_337 rfl (lv_at hl 3 rfl) ?_
        refine lv_iload_n hx hb dL_338 rfl (lv_at hl 0 rfl) ?_
        refine lv_iconst (v := 2) hx hb dL_339 (by decide) ?_
        refine lv_iadd hx hb dL_340 ?_
        refine va_sld hx hb hX hbl hbA hS (rt_rdx (t := t) (j := 2) (nI_add (4 * t) 2) (by omega) hL) dL_341 ?_
        refine rt_lvi (As := [.int (xs (nI (4 * t) + 1).toNatClampNeg), .int (xs (nI (4 * t) + 2).toNatClampNeg)]) (rest := [.int r]) (k := 0) rtR_Xo ⟨hx, hb, hml, hown, hts⟩ (k_R_RangeTellerModel_operand l D cI cZ B hOR τ (xs (nI (4 * t) + 1).toNatClampNeg) (xs (nI (4 * t) + 2).toNatClampNeg) r v hR) (cw_RangeTellerModel_operand hts (hts _ (rt_m rt_w1268)) ⟨Nat.le_of_ble_eq_true rfl, Nat.le_of_ble_eq_true rfl⟩) hK hPR hS (rt_AA hAR hS) trivial rfl rfl rfl hl.1 rfl (Nat.le_of_ble_eq_true rfl) dL_342 ⟨Nat.le_of_ble_eq_true rfl, Nat.le_of_ble_eq_true rfl⟩ (fun H1 locs h1 hk hz hS => ?_)
        have hPC := rt_other hOC hcr2 hPC hk
        have hPR := h1
        clear h1 hk hz
        refine lv_icmp_eq (tgt := 439) hx hb dL_345 (by decide) (fun _ => ?_) (fun hne => absurd rfl hne)
        exact fin u v _ _ hnew hPC hPR hS
      by_cases c10 : op = 10
      · refine lv_tableIn (off := 318) (tgt := 350) hx hb dL_32 (by rw [c10]; decide) (by rw [c10]; decide) (by rw [c10]; rfl) (by decide) ?_
        obtain ⟨r, u, v, hC, hR, hnew⟩ := h_local (xs (nI (4 * t) + 1).toNatClampNeg) (xs (nI (4 * t) + 2).toNatClampNeg)
        refine lv_aload_n hx hb dL_350 rfl (lv_at hl 2 rfl) ?_
        refine lv_aload_n hx hb dL_351 rfl (lv_at hl 3 rfl) ?_
        refine lv_iload_n hx hb dL_352 rfl (lv_at hl 0 rfl) ?_
        refine lv_iconst (v := 1) hx hb dL_353 (by decide) ?_
        refine lv_iadd hx hb dL_354 ?_
        refine va_sld hx hb hX hbl hbA hS (rt_rdx (t := t) (j := 1) (nI_add (4 * t) 1) (by omega) hL) dL_355 ?_
        refine lv_aload_n hx hb dL_356 rfl (lv_at hl 3 rfl) ?_
        refine lv_iload_n hx hb dL_357 rfl (lv_at hl 0 rfl) ?_
        refine lv_iconst (v := 2) hx hb dL_358 (by decide) ?_
        refine lv_iadd hx hb dL_359 ?_
        refine va_sld hx hb hX hbl hbA hS (rt_rdx (t := t) (j := 2) (nI_add (4 * t) 2) (by omega) hL) dL_360 ?_
        refine rt_lvi (As := [.int (xs (nI (4 * t) + 1).toNatClampNeg), .int (xs (nI (4 * t) + 2).toNatClampNeg)]) (rest := []) (k := 0) rtC_Xo ⟨hx, hb, hml, hown, hts⟩ (k_C_RangeTeller_local l D cI cZ A hOC σ (xs (nI (4 * t) + 1).toNatClampNeg) (xs (nI (4 * t) + 2).toNatClampNeg) r u hC) (cw_RangeTeller_local hts (hts _ (rt_m rt_w825)) ⟨Nat.le_of_ble_eq_true rfl, Nat.le_of_ble_eq_true rfl⟩) hK hPC hS (rt_AA hAC hS) hXs rfl rfl rfl hl.1 rfl (Nat.le_of_ble_eq_true rfl) dL_361 ⟨Nat.le_of_ble_eq_true rfl, Nat.le_of_ble_eq_true rfl⟩ (fun H1 locs h1 hk hz hS => ?_)
        have hPR := rt_other hOR hcr hPR hk
        have hPC := h1
        clear h1 hk hz
        refine lv_aload_n hx hb dL_364 rfl (lv_at hl 1 rfl) ?_
        refine lv_aload_n hx hb dL_365 rfl (lv_at hl 3 rfl) ?_
        refine lv_iload_n hx hb dL_366 rfl (lv_at hl 0 rfl) ?_
        refine lv_iconst (v := 1) hx hb dL_367 (by decide) ?_
        refine lv_iadd hx hb dL_368 ?_
        refine va_sld hx hb hX hbl hbA hS (rt_rdx (t := t) (j := 1) (nI_add (4 * t) 1) (by omega) hL) dL_369 ?_
        refine lv_aload_n hx hb dL_370 rfl (lv_at hl 3 rfl) ?_
        refine lv_iload_n hx hb dL_371 rfl (lv_at hl 0 rfl) ?_
        refine lv_iconst (v := 2) hx hb dL_372 (by decide) ?_
        refine lv_iadd hx hb dL_373 ?_
        refine va_sld hx hb hX hbl hbA hS (rt_rdx (t := t) (j := 2) (nI_add (4 * t) 2) (by omega) hL) dL_374 ?_
        refine rt_lvi (As := [.int (xs (nI (4 * t) + 1).toNatClampNeg), .int (xs (nI (4 * t) + 2).toNatClampNeg)]) (rest := [.int r]) (k := 0) rtR_Xo ⟨hx, hb, hml, hown, hts⟩ (k_R_RangeTellerModel_local l D cI cZ B hOR τ (xs (nI (4 * t) + 1).toNatClampNeg) (xs (nI (4 * t) + 2).toNatClampNeg) r v hR) (cw_RangeTellerModel_local hts (hts _ (rt_m rt_w1275)) ⟨Nat.le_of_ble_eq_true rfl, Nat.le_of_ble_eq_true rfl⟩) hK hPR hS (rt_AA hAR hS) trivial rfl rfl rfl hl.1 rfl (Nat.le_of_ble_eq_true rfl) dL_375 ⟨Nat.le_of_ble_eq_true rfl, Nat.le_of_ble_eq_true rfl⟩ (fun H1 locs h1 hk hz hS => ?_)
        have hPC := rt_other hOC hcr2 hPC hk
        have hPR := h1
        clear h1 hk hz
        refine lv_icmp_eq (tgt := 439) hx hb dL_378 (by decide) (fun _ => ?_) (fun hne => absurd rfl hne)
        exact fin u v _ _ hnew hPC hPR hS
      by_cases c11 : op = 11
      · refine lv_tableIn (off := 351) (tgt := 383) hx hb dL_32 (by rw [c11]; decide) (by rw [c11]; decide) (by rw [c11]; rfl) (by decide) ?_
        obtain ⟨r, u, v, hC, hR, hnew⟩ := h_cell (xs (nI (4 * t) + 1).toNatClampNeg)
        refine lv_aload_n hx hb dL_383 rfl (lv_at hl 2 rfl) ?_
        refine lv_aload_n hx hb dL_384 rfl (lv_at hl 3 rfl) ?_
        refine lv_iload_n hx hb dL_385 rfl (lv_at hl 0 rfl) ?_
        refine lv_iconst (v := 1) hx hb dL_386 (by decide) ?_
        refine lv_iadd hx hb dL_387 ?_
        refine va_sld hx hb hX hbl hbA hS (rt_rdx (t := t) (j := 1) (nI_add (4 * t) 1) (by omega) hL) dL_388 ?_
        refine rt_lvi (As := [.int (xs (nI (4 * t) + 1).toNatClampNeg)]) (rest := []) (k := 0) rtC_Xo ⟨hx, hb, hml, hown, hts⟩ (k_C_RangeTeller_cell l D cI cZ A hOC σ (xs (nI (4 * t) + 1).toNatClampNeg) r u hC) (cw_RangeTeller_cell hts (hts _ (rt_m rt_w833)) ⟨Nat.le_of_ble_eq_true rfl, Nat.le_of_ble_eq_true rfl⟩) hK hPC hS (rt_AA hAC hS) hXs rfl rfl rfl hl.1 rfl (Nat.le_of_ble_eq_true rfl) dL_389 ⟨Nat.le_of_ble_eq_true rfl, Nat.le_of_ble_eq_true rfl⟩ (fun H1 locs h1 hk hz hS => ?_)
        have hPR := rt_other hOR hcr hPR hk
        have hPC := h1
        clear h1 hk hz
        refine lv_aload_n hx hb dL_392 rfl (lv_at hl 1 rfl) ?_
        refine lv_aload_n hx hb dL_393 rfl (lv_at hl 3 rfl) ?_
        refine lv_iload_n hx hb dL_394 rfl (lv_at hl 0 rfl) ?_
        refine lv_iconst (v := 1) hx hb dL_395 (by decide) ?_
        refine lv_iadd hx hb dL_396 ?_
        refine va_sld hx hb hX hbl hbA hS (rt_rdx (t := t) (j := 1) (nI_add (4 * t) 1) (by omega) hL) dL_397 ?_
        refine rt_lvi (As := [.int (xs (nI (4 * t) + 1).toNatClampNeg)]) (rest := [.int r]) (k := 0) rtR_Xo ⟨hx, hb, hml, hown, hts⟩ (k_R_RangeTellerModel_cell l D cI cZ B hOR τ (xs (nI (4 * t) + 1).toNatClampNeg) r v hR) (cw_RangeTellerModel_cell hts (hts _ (rt_m rt_w1279)) ⟨Nat.le_of_ble_eq_true rfl, Nat.le_of_ble_eq_true rfl⟩) hK hPR hS (rt_AA hAR hS) trivial rfl rfl rfl hl.1 rfl (Nat.le_of_ble_eq_true rfl) dL_398 ⟨Nat.le_of_ble_eq_true rfl, Nat.le_of_ble_eq_true rfl⟩ (fun H1 locs h1 hk hz hS => ?_)
        have hPC := rt_other hOC hcr2 hPC hk
        have hPR := h1
        clear h1 hk hz
        refine lv_icmp_eq (tgt := 439) hx hb dL_401 (by decide) (fun _ => ?_) (fun hne => absurd rfl hne)
        exact fin u v _ _ hnew hPC hPR hS
      by_cases c12 : op = 12
      · refine lv_tableIn (off := 374) (tgt := 406) hx hb dL_32 (by rw [c12]; decide) (by rw [c12]; decide) (by rw [c12]; rfl) (by decide) ?_
        obtain ⟨r, u, v, hC, hR, hnew⟩ := h_function (xs (nI (4 * t) + 1).toNatClampNeg) (xs (nI (4 * t) + 2).toNatClampNeg)
        refine lv_aload_n hx hb dL_406 rfl (lv_at hl 2 rfl) ?_
        refine lv_aload_n hx hb dL_407 rfl (lv_at hl 3 rfl) ?_
        refine lv_iload_n hx hb dL_408 rfl (lv_at hl 0 rfl) ?_
        refine lv_iconst (v := 1) hx hb dL_409 (by decide) ?_
        refine lv_iadd hx hb dL_410 ?_
        refine va_sld hx hb hX hbl hbA hS (rt_rdx (t := t) (j := 1) (nI_add (4 * t) 1) (by omega) hL) dL_411 ?_
        refine lv_aload_n hx hb dL_412 rfl (lv_at hl 3 rfl) ?_
        refine lv_iload_n hx hb dL_413 rfl (lv_at hl 0 rfl) ?_
        refine lv_iconst (v := 2) hx hb dL_414 (by decide) ?_
        refine lv_iadd hx hb dL_415 ?_
        refine va_sld hx hb hX hbl hbA hS (rt_rdx (t := t) (j := 2) (nI_add (4 * t) 2) (by omega) hL) dL_416 ?_
        refine rt_lvi (As := [.int (xs (nI (4 * t) + 1).toNatClampNeg), .int (xs (nI (4 * t) + 2).toNatClampNeg)]) (rest := []) (k := 0) rtC_Xo ⟨hx, hb, hml, hown, hts⟩ (k_C_RangeTeller_function l D cI cZ A hOC σ (xs (nI (4 * t) + 1).toNatClampNeg) (xs (nI (4 * t) + 2).toNatClampNeg) r u hC) (cw_RangeTeller_function hts (hts _ (rt_m rt_w837)) ⟨Nat.le_of_ble_eq_true rfl, Nat.le_of_ble_eq_true rfl⟩) hK hPC hS (rt_AA hAC hS) hXs rfl rfl rfl hl.1 rfl (Nat.le_of_ble_eq_true rfl) dL_417 ⟨Nat.le_of_ble_eq_true rfl, Nat.le_of_ble_eq_true rfl⟩ (fun H1 locs h1 hk hz hS => ?_)
        have hPR := rt_other hOR hcr hPR hk
        have hPC := h1
        clear h1 hk hz
        refine lv_aload_n hx hb dL_420 rfl (lv_at hl 1 rfl) ?_
        refine lv_aload_n hx hb dL_421 rfl (lv_at hl 3 rfl) ?_
        refine lv_iload_n hx hb dL_422 rfl (lv_at hl 0 rfl) ?_
        refine lv_iconst (v := 1) hx hb dL_423 (by decide) ?_
        refine lv_iadd hx hb dL_424 ?_
        refine va_sld hx hb hX hbl hbA hS (rt_rdx (t := t) (j := 1) (nI_add (4 * t) 1) (by omega) hL) dL_425 ?_
        refine lv_aload_n hx hb dL_426 rfl (lv_at hl 3 rfl) ?_
        refine lv_iload_n hx hb dL_427 rfl (lv_at hl 0 rfl) ?_
        refine lv_iconst (v := 2) hx hb dL_428 (by decide) ?_
        refine lv_iadd hx hb dL_429 ?_
        refine va_sld hx hb hX hbl hbA hS (rt_rdx (t := t) (j := 2) (nI_add (4 * t) 2) (by omega) hL) dL_430 ?_
        refine rt_lvi (As := [.int (xs (nI (4 * t) + 1).toNatClampNeg), .int (xs (nI (4 * t) + 2).toNatClampNeg)]) (rest := [.int r]) (k := 0) rtR_Xo ⟨hx, hb, hml, hown, hts⟩ (k_R_RangeTellerModel_function l D cI cZ B hOR τ (xs (nI (4 * t) + 1).toNatClampNeg) (xs (nI (4 * t) + 2).toNatClampNeg) r v hR) (cw_RangeTellerModel_function hts (hts _ (rt_m rt_w1283)) ⟨Nat.le_of_ble_eq_true rfl, Nat.le_of_ble_eq_true rfl⟩) hK hPR hS (rt_AA hAR hS) trivial rfl rfl rfl hl.1 rfl (Nat.le_of_ble_eq_true rfl) dL_431 ⟨Nat.le_of_ble_eq_true rfl, Nat.le_of_ble_eq_true rfl⟩ (fun H1 locs h1 hk hz hS => ?_)
        have hPC := rt_other hOC hcr2 hPC hk
        have hPR := h1
        clear h1 hk hz
        refine lv_icmp_eq (tgt := 439) hx hb dL_434 (by decide) (fun _ => ?_) (fun hne => absurd rfl hne)
        exact fin u v _ _ hnew hPC hPR hS
      refine lv_tableOut (tgt := 439) hx hb dL_32 (by have := lv_neT (a := 0) c0 rfl; have := lv_neT (a := 1) c1 rfl; have := lv_neT (a := 2) c2 rfl; have := lv_neT (a := 3) c3 rfl; have := lv_neT (a := 4) c4 rfl; have := lv_neT (a := 5) c5 rfl; have := lv_neT (a := 6) c6 rfl; have := lv_neT (a := 7) c7 rfl; have := lv_neT (a := 8) c8 rfl; have := lv_neT (a := 9) c9 rfl; have := lv_neT (a := 10) c10 rfl; have := lv_neT (a := 11) c11 rfl; have := lv_neT (a := 12) c12 rfl; omega) (by decide) ?_
      exact fin σ τ _ _ hdef hPC hPR hS
