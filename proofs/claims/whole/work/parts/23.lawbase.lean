/-! THE CLAIM OUT OF ONE WALK OF THE LAW'S BODY. Your part is whole_start (and what it stands on); all else here is the same for every law, but numbers. -/
def R_law : String := "FermionMapsLaw"
def lw_P (b : Addr) (xs : List Int32) (args : Array Value) (s : State) : Prop := args = #[.ref b] ∧ s.IntsAt b xs ∧ xs.length ≤ 2048 ∧ (Jvm.Cond.and given_1 narrow_1).before args s = true
def lw_Q (_ : Array Value) (s : State) (o : Outcome) (t : State) : Prop := o = .returned (some (.int 1)) ∧ Framed s o t [] 601024 7293034
def lw_Z (below : List Frame) (a : Array Value) (s : State) : State → Prop := fun t => ∃ o, t.status = .running ∧ Ended t below o ∧ lw_Q a s o t
/-- the law's own end, with 1 on the stack, nothing written that was there before, its room as the claim has it -/
theorem lw_ret {p : Program} {l : Launch} {e : Env} {s : State} {m : MethodId} {below : List Frame} {meth : Method} {c : Code} {b : Nat} (hx : p.tables.exec = Jvm.exec) (hb : c.code = code) (hr : meth.sig.returnType = ret) (hlocks : meth.locks = false) {pc : Nat} {H : Heap} {ls : Array Slot} (hdg : decode code pc = .ok (.ireturn, 1)) : W p l e room_1 s m #[Value.ref b] below meth c H [] 601024 7293034 (lw_Z below #[Value.ref b] s) (F0 m pc ls [.int 1]) := by
  intro T hT X
  obtain ⟨fs, hret, hrun, hended, hW, hframe⟩ := X.leave (v := some (.int 1)) (hlocks := hlocks) (fun h => by rw [hr] at h; cases h)
  have hmeth' : T.vm.method? m = some meth := X.method'
  refine ⟨T.setFrames fs, ?_, .returned (some (.int 1)), hrun, hended, rfl, ⟨_, rfl⟩, hW, hframe⟩
  jvm_step X.here [X.here.top, hx, hb, hdg, hmeth', hr, ret, narrow_b1]
  (try refine ⟨rfl, ?_⟩); (try refine ⟨rfl, ?_⟩)
  first | (intro acts; rw [hret _ acts rfl rfl rfl]) | rw [hret _ _ rfl rfl rfl]
  exact Steps.refl _
/-- what holds at the law's entry: the machine, the code, the tables' words (any of lw_tbl by 'hts w (by decide +kernel)'), the script of L ints xs at the cell b, what the Statement gives of the start (any of its parts by flat_of_before) -/
def lw_At (p : Program) (s : State) (m : MethodId) (meth : Method) (c : Code) (b L : Nat) (xs : Nat → Int32) : Prop :=
  p.tables.exec = Jvm.exec ∧ c.code = code ∧ meth.sig.returnType = ret ∧ c.maxLocals = 8 ∧ s.vm.findClass R_law = some m.cls ∧ (∀ w ∈ lw_tbl, w.before #[Value.ref b] s = true) ∧ va_X b L xs s s.heap ∧ b < s.heap.size ∧ meth.locks = false ∧ (Jvm.Cond.and given_1 narrow_1).before #[Value.ref b] s = true
theorem d_La_law_0 : decode code 0 = .ok (.new 8, 3) := by decide +kernel
theorem d_La_law_3 : decode code 3 = .ok (.dup, 1) := by decide +kernel
theorem d_La_law_4 : decode code 4 = .ok (.invokespecial 22, 3) := by decide +kernel
theorem d_La_law_7 : decode code 7 = .ok (.astore_n 1, 1) := by decide +kernel
theorem d_La_law_8 : decode code 8 = .ok (.new 23, 3) := by decide +kernel
theorem d_La_law_11 : decode code 11 = .ok (.dup, 1) := by decide +kernel
theorem d_La_law_12 : decode code 12 = .ok (.invokespecial 25, 3) := by decide +kernel
theorem d_La_law_15 : decode code 15 = .ok (.astore_n 2, 1) := by decide +kernel
theorem d_La_law_16 : decode code 16 = .ok (.iconst 1, 1) := by decide +kernel
theorem d_La_law_17 : decode code 17 = .ok (.newarray .long, 2) := by decide +kernel
theorem d_La_law_19 : decode code 19 = .ok (.astore_n 3, 1) := by decide +kernel
theorem d_La_law_20 : decode code 20 = .ok (.iconst 0, 1) := by decide +kernel
theorem d_La_law_21 : decode code 21 = .ok (.istore 4, 2) := by decide +kernel
theorem d_La_law_23 : decode code 23 = .ok (.iload 4, 2) := by decide +kernel
theorem d_La_law_25 : decode code 25 = .ok (.aload_n 0, 1) := by decide +kernel
theorem d_La_law_26 : decode code 26 = .ok (.arraylength, 1) := by decide +kernel
theorem d_La_law_27 : decode code 27 = .ok (.iconst 4, 1) := by decide +kernel
theorem d_La_law_28 : decode code 28 = .ok (.isub, 1) := by decide +kernel
theorem d_La_law_29 : decode code 29 = .ok (.if_icmp .gt 582, 3) := by decide +kernel
theorem d_La_law_32 : decode code 32 = .ok (.aload_n 0, 1) := by decide +kernel
theorem d_La_law_33 : decode code 33 = .ok (.iload 4, 2) := by decide +kernel
theorem d_La_law_35 : decode code 35 = .ok (.iaload, 1) := by decide +kernel
theorem d_La_law_36 : decode code 36 = .ok (.bipush 15, 2) := by decide +kernel
theorem d_La_law_38 : decode code 38 = .ok (.iand, 1) := by decide +kernel
theorem d_La_law_39 : decode code 39 = .ok (.tableswitch 566 0 11 #[61, 86, 135, 216, 227, 295, 362, 387, 424, 449, 474, 541], 61) := by decide +kernel
theorem d_La_law_100 : decode code 100 = .ok (.aload_n 1, 1) := by decide +kernel
theorem d_La_law_101 : decode code 101 = .ok (.aload_n 0, 1) := by decide +kernel
theorem d_La_law_102 : decode code 102 = .ok (.iload 4, 2) := by decide +kernel
theorem d_La_law_104 : decode code 104 = .ok (.iconst 1, 1) := by decide +kernel
theorem d_La_law_105 : decode code 105 = .ok (.iadd, 1) := by decide +kernel
theorem d_La_law_106 : decode code 106 = .ok (.iaload, 1) := by decide +kernel
theorem d_La_law_107 : decode code 107 = .ok (.invokevirtual 26, 3) := by decide +kernel
theorem d_La_law_110 : decode code 110 = .ok (.aload_n 2, 1) := by decide +kernel
theorem d_La_law_111 : decode code 111 = .ok (.aload_n 0, 1) := by decide +kernel
theorem d_La_law_112 : decode code 112 = .ok (.iload 4, 2) := by decide +kernel
theorem d_La_law_114 : decode code 114 = .ok (.iconst 1, 1) := by decide +kernel
theorem d_La_law_115 : decode code 115 = .ok (.iadd, 1) := by decide +kernel
theorem d_La_law_116 : decode code 116 = .ok (.iaload, 1) := by decide +kernel
theorem d_La_law_117 : decode code 117 = .ok (.invokevirtual 30, 3) := by decide +kernel
theorem d_La_law_120 : decode code 120 = .ok (.if_icmp .eq 485, 3) := by decide +kernel
theorem d_La_law_123 : decode code 123 = .ok (.iconst 0, 1) := by decide +kernel
theorem d_La_law_124 : decode code 124 = .ok (.ireturn, 1) := by decide +kernel
theorem d_La_law_125 : decode code 125 = .ok (.aload_n 1, 1) := by decide +kernel
theorem d_La_law_126 : decode code 126 = .ok (.aload_n 0, 1) := by decide +kernel
theorem d_La_law_127 : decode code 127 = .ok (.iload 4, 2) := by decide +kernel
theorem d_La_law_129 : decode code 129 = .ok (.iconst 1, 1) := by decide +kernel
theorem d_La_law_130 : decode code 130 = .ok (.iadd, 1) := by decide +kernel
theorem d_La_law_131 : decode code 131 = .ok (.iaload, 1) := by decide +kernel
theorem d_La_law_132 : decode code 132 = .ok (.aload_n 0, 1) := by decide +kernel
theorem d_La_law_133 : decode code 133 = .ok (.iload 4, 2) := by decide +kernel
theorem d_La_law_135 : decode code 135 = .ok (.iconst 2, 1) := by decide +kernel
theorem d_La_law_136 : decode code 136 = .ok (.iadd, 1) := by decide +kernel
theorem d_La_law_137 : decode code 137 = .ok (.iaload, 1) := by decide +kernel
theorem d_La_law_138 : decode code 138 = .ok (.aload_n 0, 1) := by decide +kernel
theorem d_La_law_139 : decode code 139 = .ok (.iload 4, 2) := by decide +kernel
theorem d_La_law_141 : decode code 141 = .ok (.iconst 3, 1) := by decide +kernel
theorem d_La_law_142 : decode code 142 = .ok (.iadd, 1) := by decide +kernel
theorem d_La_law_143 : decode code 143 = .ok (.iaload, 1) := by decide +kernel
theorem d_La_law_144 : decode code 144 = .ok (.invokevirtual 31, 3) := by decide +kernel
theorem d_La_law_147 : decode code 147 = .ok (.aload_n 2, 1) := by decide +kernel
theorem d_La_law_148 : decode code 148 = .ok (.aload_n 0, 1) := by decide +kernel
theorem d_La_law_149 : decode code 149 = .ok (.iload 4, 2) := by decide +kernel
theorem d_La_law_151 : decode code 151 = .ok (.iconst 1, 1) := by decide +kernel
theorem d_La_law_152 : decode code 152 = .ok (.iadd, 1) := by decide +kernel
theorem d_La_law_153 : decode code 153 = .ok (.iaload, 1) := by decide +kernel
theorem d_La_law_154 : decode code 154 = .ok (.aload_n 0, 1) := by decide +kernel
theorem d_La_law_155 : decode code 155 = .ok (.iload 4, 2) := by decide +kernel
theorem d_La_law_157 : decode code 157 = .ok (.iconst 2, 1) := by decide +kernel
theorem d_La_law_158 : decode code 158 = .ok (.iadd, 1) := by decide +kernel
theorem d_La_law_159 : decode code 159 = .ok (.iaload, 1) := by decide +kernel
theorem d_La_law_160 : decode code 160 = .ok (.aload_n 0, 1) := by decide +kernel
theorem d_La_law_161 : decode code 161 = .ok (.iload 4, 2) := by decide +kernel
theorem d_La_law_163 : decode code 163 = .ok (.iconst 3, 1) := by decide +kernel
theorem d_La_law_164 : decode code 164 = .ok (.iadd, 1) := by decide +kernel
theorem d_La_law_165 : decode code 165 = .ok (.iaload, 1) := by decide +kernel
theorem d_La_law_166 : decode code 166 = .ok (.invokevirtual 35, 3) := by decide +kernel
theorem d_La_law_169 : decode code 169 = .ok (.if_icmp .eq 436, 3) := by decide +kernel
theorem d_La_law_172 : decode code 172 = .ok (.iconst 0, 1) := by decide +kernel
theorem d_La_law_173 : decode code 173 = .ok (.ireturn, 1) := by decide +kernel
theorem d_La_law_174 : decode code 174 = .ok (.aload_n 1, 1) := by decide +kernel
theorem d_La_law_175 : decode code 175 = .ok (.aload_n 0, 1) := by decide +kernel
theorem d_La_law_176 : decode code 176 = .ok (.iload 4, 2) := by decide +kernel
theorem d_La_law_178 : decode code 178 = .ok (.iconst 1, 1) := by decide +kernel
theorem d_La_law_179 : decode code 179 = .ok (.iadd, 1) := by decide +kernel
theorem d_La_law_180 : decode code 180 = .ok (.iaload, 1) := by decide +kernel
theorem d_La_law_181 : decode code 181 = .ok (.aload_n 0, 1) := by decide +kernel
theorem d_La_law_182 : decode code 182 = .ok (.iload 4, 2) := by decide +kernel
theorem d_La_law_184 : decode code 184 = .ok (.iconst 2, 1) := by decide +kernel
theorem d_La_law_185 : decode code 185 = .ok (.iadd, 1) := by decide +kernel
theorem d_La_law_186 : decode code 186 = .ok (.iaload, 1) := by decide +kernel
theorem d_La_law_187 : decode code 187 = .ok (.ifCond .eq 7, 3) := by decide +kernel
theorem d_La_law_190 : decode code 190 = .ok (.iconst 1, 1) := by decide +kernel
theorem d_La_law_191 : decode code 191 = .ok (.goto 4, 3) := by decide +kernel
theorem d_La_law_194 : decode code 194 = .ok (.iconst 0, 1) := by decide +kernel
theorem d_La_law_195 : decode code 195 = .ok (.aload_n 0, 1) := by decide +kernel
theorem d_La_law_196 : decode code 196 = .ok (.iload 4, 2) := by decide +kernel
theorem d_La_law_198 : decode code 198 = .ok (.iconst 3, 1) := by decide +kernel
theorem d_La_law_199 : decode code 199 = .ok (.iadd, 1) := by decide +kernel
theorem d_La_law_200 : decode code 200 = .ok (.iaload, 1) := by decide +kernel
theorem d_La_law_201 : decode code 201 = .ok (.ifCond .eq 7, 3) := by decide +kernel
theorem d_La_law_204 : decode code 204 = .ok (.iconst 1, 1) := by decide +kernel
theorem d_La_law_205 : decode code 205 = .ok (.goto 4, 3) := by decide +kernel
theorem d_La_law_208 : decode code 208 = .ok (.iconst 0, 1) := by decide +kernel
theorem d_La_law_209 : decode code 209 = .ok (.invokevirtual 36, 3) := by decide +kernel
theorem d_La_law_212 : decode code 212 = .ok (.aload_n 2, 1) := by decide +kernel
theorem d_La_law_213 : decode code 213 = .ok (.aload_n 0, 1) := by decide +kernel
theorem d_La_law_214 : decode code 214 = .ok (.iload 4, 2) := by decide +kernel
theorem d_La_law_216 : decode code 216 = .ok (.iconst 1, 1) := by decide +kernel
theorem d_La_law_217 : decode code 217 = .ok (.iadd, 1) := by decide +kernel
theorem d_La_law_218 : decode code 218 = .ok (.iaload, 1) := by decide +kernel
theorem d_La_law_219 : decode code 219 = .ok (.aload_n 0, 1) := by decide +kernel
theorem d_La_law_220 : decode code 220 = .ok (.iload 4, 2) := by decide +kernel
theorem d_La_law_222 : decode code 222 = .ok (.iconst 2, 1) := by decide +kernel
theorem d_La_law_223 : decode code 223 = .ok (.iadd, 1) := by decide +kernel
theorem d_La_law_224 : decode code 224 = .ok (.iaload, 1) := by decide +kernel
theorem d_La_law_225 : decode code 225 = .ok (.ifCond .eq 7, 3) := by decide +kernel
theorem d_La_law_228 : decode code 228 = .ok (.iconst 1, 1) := by decide +kernel
theorem d_La_law_229 : decode code 229 = .ok (.goto 4, 3) := by decide +kernel
theorem d_La_law_232 : decode code 232 = .ok (.iconst 0, 1) := by decide +kernel
theorem d_La_law_233 : decode code 233 = .ok (.aload_n 0, 1) := by decide +kernel
theorem d_La_law_234 : decode code 234 = .ok (.iload 4, 2) := by decide +kernel
theorem d_La_law_236 : decode code 236 = .ok (.iconst 3, 1) := by decide +kernel
theorem d_La_law_237 : decode code 237 = .ok (.iadd, 1) := by decide +kernel
theorem d_La_law_238 : decode code 238 = .ok (.iaload, 1) := by decide +kernel
theorem d_La_law_239 : decode code 239 = .ok (.ifCond .eq 7, 3) := by decide +kernel
theorem d_La_law_242 : decode code 242 = .ok (.iconst 1, 1) := by decide +kernel
theorem d_La_law_243 : decode code 243 = .ok (.goto 4, 3) := by decide +kernel
theorem d_La_law_246 : decode code 246 = .ok (.iconst 0, 1) := by decide +kernel
theorem d_La_law_247 : decode code 247 = .ok (.invokevirtual 40, 3) := by decide +kernel
theorem d_La_law_250 : decode code 250 = .ok (.if_icmp .eq 355, 3) := by decide +kernel
theorem d_La_law_253 : decode code 253 = .ok (.iconst 0, 1) := by decide +kernel
theorem d_La_law_254 : decode code 254 = .ok (.ireturn, 1) := by decide +kernel
theorem d_La_law_255 : decode code 255 = .ok (.aload_n 1, 1) := by decide +kernel
theorem d_La_law_256 : decode code 256 = .ok (.invokevirtual 41, 3) := by decide +kernel
theorem d_La_law_259 : decode code 259 = .ok (.aload_n 2, 1) := by decide +kernel
theorem d_La_law_260 : decode code 260 = .ok (.invokevirtual 44, 3) := by decide +kernel
theorem d_La_law_263 : decode code 263 = .ok (.goto 342, 3) := by decide +kernel
theorem d_La_law_266 : decode code 266 = .ok (.aload_n 1, 1) := by decide +kernel
theorem d_La_law_267 : decode code 267 = .ok (.aload_n 0, 1) := by decide +kernel
theorem d_La_law_268 : decode code 268 = .ok (.iload 4, 2) := by decide +kernel
theorem d_La_law_270 : decode code 270 = .ok (.iconst 1, 1) := by decide +kernel
theorem d_La_law_271 : decode code 271 = .ok (.iadd, 1) := by decide +kernel
theorem d_La_law_272 : decode code 272 = .ok (.iaload, 1) := by decide +kernel
theorem d_La_law_273 : decode code 273 = .ok (.aload_n 0, 1) := by decide +kernel
theorem d_La_law_274 : decode code 274 = .ok (.iload 4, 2) := by decide +kernel
theorem d_La_law_276 : decode code 276 = .ok (.iconst 2, 1) := by decide +kernel
theorem d_La_law_277 : decode code 277 = .ok (.iadd, 1) := by decide +kernel
theorem d_La_law_278 : decode code 278 = .ok (.iaload, 1) := by decide +kernel
theorem d_La_law_279 : decode code 279 = .ok (.aload_n 3, 1) := by decide +kernel
theorem d_La_law_280 : decode code 280 = .ok (.invokestatic 45, 3) := by decide +kernel
theorem d_La_law_283 : decode code 283 = .ok (.istore 5, 2) := by decide +kernel
theorem d_La_law_285 : decode code 285 = .ok (.aload_n 2, 1) := by decide +kernel
theorem d_La_law_286 : decode code 286 = .ok (.aload_n 0, 1) := by decide +kernel
theorem d_La_law_287 : decode code 287 = .ok (.iload 4, 2) := by decide +kernel
theorem d_La_law_289 : decode code 289 = .ok (.iconst 1, 1) := by decide +kernel
theorem d_La_law_290 : decode code 290 = .ok (.iadd, 1) := by decide +kernel
theorem d_La_law_291 : decode code 291 = .ok (.iaload, 1) := by decide +kernel
theorem d_La_law_292 : decode code 292 = .ok (.aload_n 0, 1) := by decide +kernel
theorem d_La_law_293 : decode code 293 = .ok (.iload 4, 2) := by decide +kernel
theorem d_La_law_295 : decode code 295 = .ok (.iconst 2, 1) := by decide +kernel
theorem d_La_law_296 : decode code 296 = .ok (.iadd, 1) := by decide +kernel
theorem d_La_law_297 : decode code 297 = .ok (.iaload, 1) := by decide +kernel
theorem d_La_law_298 : decode code 298 = .ok (.invokevirtual 50, 3) := by decide +kernel
theorem d_La_law_301 : decode code 301 = .ok (.istore 6, 2) := by decide +kernel
theorem d_La_law_303 : decode code 303 = .ok (.aload_n 2, 1) := by decide +kernel
theorem d_La_law_304 : decode code 304 = .ok (.invokevirtual 51, 3) := by decide +kernel
theorem d_La_law_307 : decode code 307 = .ok (.iload 5, 2) := by decide +kernel
theorem d_La_law_309 : decode code 309 = .ok (.if_icmp .eq 5, 3) := by decide +kernel
theorem d_La_law_312 : decode code 312 = .ok (.iconst 0, 1) := by decide +kernel
theorem d_La_law_313 : decode code 313 = .ok (.ireturn, 1) := by decide +kernel
theorem d_La_law_314 : decode code 314 = .ok (.iload 5, 2) := by decide +kernel
theorem d_La_law_316 : decode code 316 = .ok (.ifCond .ne 15, 3) := by decide +kernel
theorem d_La_law_319 : decode code 319 = .ok (.aload_n 3, 1) := by decide +kernel
theorem d_La_law_320 : decode code 320 = .ok (.iconst 0, 1) := by decide +kernel
theorem d_La_law_321 : decode code 321 = .ok (.laload, 1) := by decide +kernel
theorem d_La_law_322 : decode code 322 = .ok (.iload 6, 2) := by decide +kernel
theorem d_La_law_324 : decode code 324 = .ok (.i2l, 1) := by decide +kernel
theorem d_La_law_325 : decode code 325 = .ok (.lcmp, 1) := by decide +kernel
theorem d_La_law_326 : decode code 326 = .ok (.ifCond .eq 5, 3) := by decide +kernel
theorem d_La_law_329 : decode code 329 = .ok (.iconst 0, 1) := by decide +kernel
theorem d_La_law_330 : decode code 330 = .ok (.ireturn, 1) := by decide +kernel
theorem d_La_law_331 : decode code 331 = .ok (.goto 274, 3) := by decide +kernel
theorem d_La_law_334 : decode code 334 = .ok (.aload_n 1, 1) := by decide +kernel
theorem d_La_law_335 : decode code 335 = .ok (.aload_n 0, 1) := by decide +kernel
theorem d_La_law_336 : decode code 336 = .ok (.iload 4, 2) := by decide +kernel
theorem d_La_law_338 : decode code 338 = .ok (.iconst 1, 1) := by decide +kernel
theorem d_La_law_339 : decode code 339 = .ok (.iadd, 1) := by decide +kernel
theorem d_La_law_340 : decode code 340 = .ok (.iaload, 1) := by decide +kernel
theorem d_La_law_341 : decode code 341 = .ok (.aload_n 0, 1) := by decide +kernel
theorem d_La_law_342 : decode code 342 = .ok (.iload 4, 2) := by decide +kernel
theorem d_La_law_344 : decode code 344 = .ok (.iconst 2, 1) := by decide +kernel
theorem d_La_law_345 : decode code 345 = .ok (.iadd, 1) := by decide +kernel
theorem d_La_law_346 : decode code 346 = .ok (.iaload, 1) := by decide +kernel
theorem d_La_law_347 : decode code 347 = .ok (.aload_n 3, 1) := by decide +kernel
theorem d_La_law_348 : decode code 348 = .ok (.invokestatic 55, 3) := by decide +kernel
theorem d_La_law_351 : decode code 351 = .ok (.istore 5, 2) := by decide +kernel
theorem d_La_law_353 : decode code 353 = .ok (.aload_n 2, 1) := by decide +kernel
theorem d_La_law_354 : decode code 354 = .ok (.aload_n 0, 1) := by decide +kernel
theorem d_La_law_355 : decode code 355 = .ok (.iload 4, 2) := by decide +kernel
theorem d_La_law_357 : decode code 357 = .ok (.iconst 1, 1) := by decide +kernel
theorem d_La_law_358 : decode code 358 = .ok (.iadd, 1) := by decide +kernel
theorem d_La_law_359 : decode code 359 = .ok (.iaload, 1) := by decide +kernel
theorem d_La_law_360 : decode code 360 = .ok (.aload_n 0, 1) := by decide +kernel
theorem d_La_law_361 : decode code 361 = .ok (.iload 4, 2) := by decide +kernel
theorem d_La_law_363 : decode code 363 = .ok (.iconst 2, 1) := by decide +kernel
theorem d_La_law_364 : decode code 364 = .ok (.iadd, 1) := by decide +kernel
theorem d_La_law_365 : decode code 365 = .ok (.iaload, 1) := by decide +kernel
theorem d_La_law_366 : decode code 366 = .ok (.invokevirtual 57, 3) := by decide +kernel
theorem d_La_law_369 : decode code 369 = .ok (.lstore 6, 2) := by decide +kernel
theorem d_La_law_371 : decode code 371 = .ok (.aload_n 2, 1) := by decide +kernel
theorem d_La_law_372 : decode code 372 = .ok (.invokevirtual 51, 3) := by decide +kernel
theorem d_La_law_375 : decode code 375 = .ok (.iload 5, 2) := by decide +kernel
theorem d_La_law_377 : decode code 377 = .ok (.if_icmp .eq 5, 3) := by decide +kernel
theorem d_La_law_380 : decode code 380 = .ok (.iconst 0, 1) := by decide +kernel
theorem d_La_law_381 : decode code 381 = .ok (.ireturn, 1) := by decide +kernel
theorem d_La_law_382 : decode code 382 = .ok (.iload 5, 2) := by decide +kernel
theorem d_La_law_384 : decode code 384 = .ok (.ifCond .ne 14, 3) := by decide +kernel
theorem d_La_law_387 : decode code 387 = .ok (.aload_n 3, 1) := by decide +kernel
theorem d_La_law_388 : decode code 388 = .ok (.iconst 0, 1) := by decide +kernel
theorem d_La_law_389 : decode code 389 = .ok (.laload, 1) := by decide +kernel
theorem d_La_law_390 : decode code 390 = .ok (.lload 6, 2) := by decide +kernel
theorem d_La_law_392 : decode code 392 = .ok (.lcmp, 1) := by decide +kernel
theorem d_La_law_393 : decode code 393 = .ok (.ifCond .eq 5, 3) := by decide +kernel
theorem d_La_law_396 : decode code 396 = .ok (.iconst 0, 1) := by decide +kernel
theorem d_La_law_397 : decode code 397 = .ok (.ireturn, 1) := by decide +kernel
theorem d_La_law_398 : decode code 398 = .ok (.goto 207, 3) := by decide +kernel
theorem d_La_law_401 : decode code 401 = .ok (.aload_n 1, 1) := by decide +kernel
theorem d_La_law_402 : decode code 402 = .ok (.aload_n 0, 1) := by decide +kernel
theorem d_La_law_403 : decode code 403 = .ok (.iload 4, 2) := by decide +kernel
theorem d_La_law_405 : decode code 405 = .ok (.iconst 1, 1) := by decide +kernel
theorem d_La_law_406 : decode code 406 = .ok (.iadd, 1) := by decide +kernel
theorem d_La_law_407 : decode code 407 = .ok (.iaload, 1) := by decide +kernel
theorem d_La_law_408 : decode code 408 = .ok (.invokevirtual 58, 3) := by decide +kernel
theorem d_La_law_411 : decode code 411 = .ok (.aload_n 2, 1) := by decide +kernel
theorem d_La_law_412 : decode code 412 = .ok (.aload_n 0, 1) := by decide +kernel
theorem d_La_law_413 : decode code 413 = .ok (.iload 4, 2) := by decide +kernel
theorem d_La_law_415 : decode code 415 = .ok (.iconst 1, 1) := by decide +kernel
theorem d_La_law_416 : decode code 416 = .ok (.iadd, 1) := by decide +kernel
theorem d_La_law_417 : decode code 417 = .ok (.iaload, 1) := by decide +kernel
theorem d_La_law_418 : decode code 418 = .ok (.invokevirtual 61, 3) := by decide +kernel
theorem d_La_law_421 : decode code 421 = .ok (.if_icmp .eq 184, 3) := by decide +kernel
theorem d_La_law_424 : decode code 424 = .ok (.iconst 0, 1) := by decide +kernel
theorem d_La_law_425 : decode code 425 = .ok (.ireturn, 1) := by decide +kernel
theorem d_La_law_426 : decode code 426 = .ok (.aload_n 1, 1) := by decide +kernel
theorem d_La_law_427 : decode code 427 = .ok (.aload_n 0, 1) := by decide +kernel
theorem d_La_law_428 : decode code 428 = .ok (.iload 4, 2) := by decide +kernel
theorem d_La_law_430 : decode code 430 = .ok (.iconst 1, 1) := by decide +kernel
theorem d_La_law_431 : decode code 431 = .ok (.iadd, 1) := by decide +kernel
theorem d_La_law_432 : decode code 432 = .ok (.iaload, 1) := by decide +kernel
theorem d_La_law_433 : decode code 433 = .ok (.aload_n 0, 1) := by decide +kernel
theorem d_La_law_434 : decode code 434 = .ok (.iload 4, 2) := by decide +kernel
theorem d_La_law_436 : decode code 436 = .ok (.iconst 2, 1) := by decide +kernel
theorem d_La_law_437 : decode code 437 = .ok (.iadd, 1) := by decide +kernel
theorem d_La_law_438 : decode code 438 = .ok (.iaload, 1) := by decide +kernel
theorem d_La_law_439 : decode code 439 = .ok (.invokevirtual 62, 3) := by decide +kernel
theorem d_La_law_442 : decode code 442 = .ok (.aload_n 2, 1) := by decide +kernel
theorem d_La_law_443 : decode code 443 = .ok (.aload_n 0, 1) := by decide +kernel
theorem d_La_law_444 : decode code 444 = .ok (.iload 4, 2) := by decide +kernel
theorem d_La_law_446 : decode code 446 = .ok (.iconst 1, 1) := by decide +kernel
theorem d_La_law_447 : decode code 447 = .ok (.iadd, 1) := by decide +kernel
theorem d_La_law_448 : decode code 448 = .ok (.iaload, 1) := by decide +kernel
theorem d_La_law_449 : decode code 449 = .ok (.aload_n 0, 1) := by decide +kernel
theorem d_La_law_450 : decode code 450 = .ok (.iload 4, 2) := by decide +kernel
theorem d_La_law_452 : decode code 452 = .ok (.iconst 2, 1) := by decide +kernel
theorem d_La_law_453 : decode code 453 = .ok (.iadd, 1) := by decide +kernel
theorem d_La_law_454 : decode code 454 = .ok (.iaload, 1) := by decide +kernel
theorem d_La_law_455 : decode code 455 = .ok (.invokevirtual 66, 3) := by decide +kernel
theorem d_La_law_458 : decode code 458 = .ok (.if_icmp .eq 147, 3) := by decide +kernel
theorem d_La_law_461 : decode code 461 = .ok (.iconst 0, 1) := by decide +kernel
theorem d_La_law_462 : decode code 462 = .ok (.ireturn, 1) := by decide +kernel
theorem d_La_law_463 : decode code 463 = .ok (.aload_n 1, 1) := by decide +kernel
theorem d_La_law_464 : decode code 464 = .ok (.aload_n 0, 1) := by decide +kernel
theorem d_La_law_465 : decode code 465 = .ok (.iload 4, 2) := by decide +kernel
theorem d_La_law_467 : decode code 467 = .ok (.iconst 1, 1) := by decide +kernel
theorem d_La_law_468 : decode code 468 = .ok (.iadd, 1) := by decide +kernel
theorem d_La_law_469 : decode code 469 = .ok (.iaload, 1) := by decide +kernel
theorem d_La_law_470 : decode code 470 = .ok (.invokevirtual 67, 3) := by decide +kernel
theorem d_La_law_473 : decode code 473 = .ok (.aload_n 2, 1) := by decide +kernel
theorem d_La_law_474 : decode code 474 = .ok (.aload_n 0, 1) := by decide +kernel
theorem d_La_law_475 : decode code 475 = .ok (.iload 4, 2) := by decide +kernel
theorem d_La_law_477 : decode code 477 = .ok (.iconst 1, 1) := by decide +kernel
theorem d_La_law_478 : decode code 478 = .ok (.iadd, 1) := by decide +kernel
theorem d_La_law_479 : decode code 479 = .ok (.iaload, 1) := by decide +kernel
theorem d_La_law_480 : decode code 480 = .ok (.invokevirtual 71, 3) := by decide +kernel
theorem d_La_law_483 : decode code 483 = .ok (.if_icmp .eq 122, 3) := by decide +kernel
theorem d_La_law_486 : decode code 486 = .ok (.iconst 0, 1) := by decide +kernel
theorem d_La_law_487 : decode code 487 = .ok (.ireturn, 1) := by decide +kernel
theorem d_La_law_488 : decode code 488 = .ok (.aload_n 1, 1) := by decide +kernel
theorem d_La_law_489 : decode code 489 = .ok (.aload_n 0, 1) := by decide +kernel
theorem d_La_law_490 : decode code 490 = .ok (.iload 4, 2) := by decide +kernel
theorem d_La_law_492 : decode code 492 = .ok (.iconst 1, 1) := by decide +kernel
theorem d_La_law_493 : decode code 493 = .ok (.iadd, 1) := by decide +kernel
theorem d_La_law_494 : decode code 494 = .ok (.iaload, 1) := by decide +kernel
theorem d_La_law_495 : decode code 495 = .ok (.invokevirtual 72, 3) := by decide +kernel
theorem d_La_law_498 : decode code 498 = .ok (.aload_n 2, 1) := by decide +kernel
theorem d_La_law_499 : decode code 499 = .ok (.aload_n 0, 1) := by decide +kernel
theorem d_La_law_500 : decode code 500 = .ok (.iload 4, 2) := by decide +kernel
theorem d_La_law_502 : decode code 502 = .ok (.iconst 1, 1) := by decide +kernel
theorem d_La_law_503 : decode code 503 = .ok (.iadd, 1) := by decide +kernel
theorem d_La_law_504 : decode code 504 = .ok (.iaload, 1) := by decide +kernel
theorem d_La_law_505 : decode code 505 = .ok (.invokevirtual 75, 3) := by decide +kernel
theorem d_La_law_508 : decode code 508 = .ok (.if_icmp .eq 97, 3) := by decide +kernel
theorem d_La_law_511 : decode code 511 = .ok (.iconst 0, 1) := by decide +kernel
theorem d_La_law_512 : decode code 512 = .ok (.ireturn, 1) := by decide +kernel
theorem d_La_law_513 : decode code 513 = .ok (.aload_n 1, 1) := by decide +kernel
theorem d_La_law_514 : decode code 514 = .ok (.aload_n 0, 1) := by decide +kernel
theorem d_La_law_515 : decode code 515 = .ok (.iload 4, 2) := by decide +kernel
theorem d_La_law_517 : decode code 517 = .ok (.iconst 1, 1) := by decide +kernel
theorem d_La_law_518 : decode code 518 = .ok (.iadd, 1) := by decide +kernel
theorem d_La_law_519 : decode code 519 = .ok (.iaload, 1) := by decide +kernel
theorem d_La_law_520 : decode code 520 = .ok (.aload_n 0, 1) := by decide +kernel
theorem d_La_law_521 : decode code 521 = .ok (.iload 4, 2) := by decide +kernel
theorem d_La_law_523 : decode code 523 = .ok (.iconst 2, 1) := by decide +kernel
theorem d_La_law_524 : decode code 524 = .ok (.iadd, 1) := by decide +kernel
theorem d_La_law_525 : decode code 525 = .ok (.iaload, 1) := by decide +kernel
theorem d_La_law_526 : decode code 526 = .ok (.aload_n 3, 1) := by decide +kernel
theorem d_La_law_527 : decode code 527 = .ok (.invokestatic 76, 3) := by decide +kernel
theorem d_La_law_530 : decode code 530 = .ok (.istore 5, 2) := by decide +kernel
theorem d_La_law_532 : decode code 532 = .ok (.aload_n 2, 1) := by decide +kernel
theorem d_La_law_533 : decode code 533 = .ok (.aload_n 0, 1) := by decide +kernel
theorem d_La_law_534 : decode code 534 = .ok (.iload 4, 2) := by decide +kernel
theorem d_La_law_536 : decode code 536 = .ok (.iconst 1, 1) := by decide +kernel
theorem d_La_law_537 : decode code 537 = .ok (.iadd, 1) := by decide +kernel
theorem d_La_law_538 : decode code 538 = .ok (.iaload, 1) := by decide +kernel
theorem d_La_law_539 : decode code 539 = .ok (.aload_n 0, 1) := by decide +kernel
theorem d_La_law_540 : decode code 540 = .ok (.iload 4, 2) := by decide +kernel
theorem d_La_law_542 : decode code 542 = .ok (.iconst 2, 1) := by decide +kernel
theorem d_La_law_543 : decode code 543 = .ok (.iadd, 1) := by decide +kernel
theorem d_La_law_544 : decode code 544 = .ok (.iaload, 1) := by decide +kernel
theorem d_La_law_545 : decode code 545 = .ok (.invokevirtual 78, 3) := by decide +kernel
theorem d_La_law_548 : decode code 548 = .ok (.lstore 6, 2) := by decide +kernel
theorem d_La_law_550 : decode code 550 = .ok (.aload_n 2, 1) := by decide +kernel
theorem d_La_law_551 : decode code 551 = .ok (.invokevirtual 51, 3) := by decide +kernel
theorem d_La_law_554 : decode code 554 = .ok (.iload 5, 2) := by decide +kernel
theorem d_La_law_556 : decode code 556 = .ok (.if_icmp .eq 5, 3) := by decide +kernel
theorem d_La_law_559 : decode code 559 = .ok (.iconst 0, 1) := by decide +kernel
theorem d_La_law_560 : decode code 560 = .ok (.ireturn, 1) := by decide +kernel
theorem d_La_law_561 : decode code 561 = .ok (.iload 5, 2) := by decide +kernel
theorem d_La_law_563 : decode code 563 = .ok (.ifCond .ne 14, 3) := by decide +kernel
theorem d_La_law_566 : decode code 566 = .ok (.aload_n 3, 1) := by decide +kernel
theorem d_La_law_567 : decode code 567 = .ok (.iconst 0, 1) := by decide +kernel
theorem d_La_law_568 : decode code 568 = .ok (.laload, 1) := by decide +kernel
theorem d_La_law_569 : decode code 569 = .ok (.lload 6, 2) := by decide +kernel
theorem d_La_law_571 : decode code 571 = .ok (.lcmp, 1) := by decide +kernel
theorem d_La_law_572 : decode code 572 = .ok (.ifCond .eq 5, 3) := by decide +kernel
theorem d_La_law_575 : decode code 575 = .ok (.iconst 0, 1) := by decide +kernel
theorem d_La_law_576 : decode code 576 = .ok (.ireturn, 1) := by decide +kernel
theorem d_La_law_577 : decode code 577 = .ok (.goto 28, 3) := by decide +kernel
theorem d_La_law_580 : decode code 580 = .ok (.aload_n 1, 1) := by decide +kernel
theorem d_La_law_581 : decode code 581 = .ok (.aload_n 0, 1) := by decide +kernel
theorem d_La_law_582 : decode code 582 = .ok (.iload 4, 2) := by decide +kernel
theorem d_La_law_584 : decode code 584 = .ok (.iconst 1, 1) := by decide +kernel
theorem d_La_law_585 : decode code 585 = .ok (.iadd, 1) := by decide +kernel
theorem d_La_law_586 : decode code 586 = .ok (.iaload, 1) := by decide +kernel
theorem d_La_law_587 : decode code 587 = .ok (.invokevirtual 79, 3) := by decide +kernel
theorem d_La_law_590 : decode code 590 = .ok (.aload_n 2, 1) := by decide +kernel
theorem d_La_law_591 : decode code 591 = .ok (.aload_n 0, 1) := by decide +kernel
theorem d_La_law_592 : decode code 592 = .ok (.iload 4, 2) := by decide +kernel
theorem d_La_law_594 : decode code 594 = .ok (.iconst 1, 1) := by decide +kernel
theorem d_La_law_595 : decode code 595 = .ok (.iadd, 1) := by decide +kernel
theorem d_La_law_596 : decode code 596 = .ok (.iaload, 1) := by decide +kernel
theorem d_La_law_597 : decode code 597 = .ok (.invokevirtual 82, 3) := by decide +kernel
theorem d_La_law_600 : decode code 600 = .ok (.if_icmp .eq 5, 3) := by decide +kernel
theorem d_La_law_603 : decode code 603 = .ok (.iconst 0, 1) := by decide +kernel
theorem d_La_law_604 : decode code 604 = .ok (.ireturn, 1) := by decide +kernel
theorem d_La_law_605 : decode code 605 = .ok (.iinc 4 4, 3) := by decide +kernel
theorem d_La_law_608 : decode code 608 = .ok (.goto (-585), 3) := by decide +kernel
theorem d_La_law_611 : decode code 611 = .ok (.iconst 1, 1) := by decide +kernel
theorem d_La_law_612 : decode code 612 = .ok (.ireturn, 1) := by decide +kernel
