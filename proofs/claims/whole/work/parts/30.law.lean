/-! THE CLAIM OUT OF ONE WALK OF THE LAW'S BODY. Your part is whole_start (and what it stands on); all else here is the same for every law, but numbers. -/
def R_law : String := "RingingChamberLaw"
def lw_P (b : Addr) (xs : List Int32) (args : Array Value) (s : State) : Prop := args = #[.ref b] ∧ s.IntsAt b xs ∧ xs.length ≤ 3072 ∧ (Jvm.Cond.and given_1 narrow_1).before args s = true
def lw_Q (_ : Array Value) (s : State) (o : Outcome) (t : State) : Prop := o = .returned (some (.int 1)) ∧ Framed s o t [] 600000 7302250
def lw_Z (below : List Frame) (a : Array Value) (s : State) : State → Prop := fun t => ∃ o, t.status = .running ∧ Ended t below o ∧ lw_Q a s o t
/-- the law's own end, with 1 on the stack, nothing written that was there before, its room as the claim has it -/
theorem lw_ret {p : Program} {l : Launch} {e : Env} {s : State} {m : MethodId} {below : List Frame} {meth : Method} {c : Code} {b : Nat} (hx : p.tables.exec = Jvm.exec) (hb : c.code = code) (hr : meth.sig.returnType = ret) (hlocks : meth.locks = false) {pc : Nat} {H : Heap} {ls : Array Slot} (hdg : decode code pc = .ok (.ireturn, 1)) : W p l e room_1 s m #[Value.ref b] below meth c H [] 600000 7302250 (lw_Z below #[Value.ref b] s) (F0 m pc ls [.int 1]) := by
  intro T hT X
  obtain ⟨fs, hret, hrun, hended, hW, hframe⟩ := X.leave (v := some (.int 1)) (hlocks := hlocks) (fun h => by rw [hr] at h; cases h)
  have hmeth' : T.vm.method? m = some meth := X.method'
  refine ⟨T.setFrames fs, ?_, .returned (some (.int 1)), hrun, hended, rfl, ⟨_, rfl⟩, hW, hframe⟩
  jvm_step X.here [X.here.top, hx, hb, hdg, hmeth', hr, ret, narrow_b1]
  (try refine ⟨rfl, ?_⟩); (try refine ⟨rfl, ?_⟩)
  first | (intro acts; rw [hret _ acts rfl rfl rfl]) | rw [hret _ _ rfl rfl rfl]
  exact Steps.refl _
/-- what holds at the law's entry: the machine, the code, the tables' words (any of lw_tbl by 'hts w (by decide +kernel)'), the script of L ints xs at the cell b, what the Statement gives of the start (any of its parts by flat_of_before) -/
def lw_At (p : Program) (s : State) (m : MethodId) (meth : Method) (c : Code) (b L : Nat) (xs : Nat → Int32) : Prop :=
  p.tables.exec = Jvm.exec ∧ c.code = code ∧ meth.sig.returnType = ret ∧ c.maxLocals = 4 ∧ s.vm.findClass R_law = some m.cls ∧ (∀ w ∈ lw_tbl, w.before #[Value.ref b] s = true) ∧ va_X b L xs s s.heap ∧ b < s.heap.size ∧ meth.locks = false ∧ (Jvm.Cond.and given_1 narrow_1).before #[Value.ref b] s = true
/-- the law's end: with 1 it is what the claim asks; of another answer nothing is said -/
def QLw (below : List Frame) (b : Nat) (s : State) : Int32 → Hp → State → Prop := fun r _ t => r = 1 → lw_Z below #[Value.ref b] s t
theorem W.mono {p : Program} {l : Launch} {e : Env} {R : Room} {s : State} {m : MethodId} {args : Array Value} {below : List Frame} {meth : Method} {c : Code} {H : Heap} {locs : List Loc} {cells slots : Nat} {Q Q' : State → Prop} {g : JFrame} (h : ∀ t, Q t → Q' t) (k : W p l e R s m args below meth c H locs cells slots Q g) : W p l e R s m args below meth c H locs cells slots Q' g := fun T hT X => by
  obtain ⟨t, a, b⟩ := k T hT X
  exact ⟨t, a, h t b⟩
theorem j_retLaw {p : Program} {l : Launch} {e : Env} {s : State} {m : MethodId} {below : List Frame} {meth : Method} {c : Code} {D : va_G} {dA : Nat → ClassId} {B b pc : Nat} {lv : List (Nat × AV)} {h : Hp} {x : Int32} (hdg : decode code pc = .ok (.ireturn, 1)) : J p l e room_1 s m #[Value.ref b] below meth c code 4 "RingingChamberLaw" 2048 84000 (some .boolean) meth.name D dA B 0 0 (QLw below b s) pc lv [vi x] h (rz x h) := by
  intro r h' ef
  unfold rz at ef
  by_cases hx : x = 0 ∨ x = 1
  · rw [if_pos hx] at ef
    cases ef
    refine ⟨⟨Nat.le_refl _, Nat.le_refl _⟩, fun X c1 c2 H locs ls n1 n2 e1 e2 w1 w2 w3 => ?_⟩
    rcases hx with rfl | rfl
    · intro T hT Y
      exact ⟨_, Steps.refl _, fun q => absurd q (by decide)⟩
    · refine W.mono (Q := lw_Z below #[Value.ref b] s) (fun t ht _ => ht) ?_
      refine va_forget (fun q hq => ?_) ?_
      · have h1 := w2.2.2 q hq
        have h2 := X.sz
        dsimp only at h1
        omega
      · have z1 : hz h ≤ 0 + 600000 := c1
        have z2 : hs h ≤ 0 + 7302250 := c2
        refine W.widen (k := 600000) (n := 7302250) (by omega) (by omega) ?_
        exact lw_ret X.x X.b X.rt X.lk hdg
  · rw [if_neg hx] at ef; cases ef

section
variable {p : Program} {l : Launch} {e : Env} {s : State} {m : MethodId} {below : List Frame} {meth : Method} {c : Code} {D : va_G} {dA : Nat → ClassId} {B b : Nat}
theorem d_Law_law_0 : decode code 0 = .ok (.new 7, 3) := by decide +kernel
theorem d_Law_law_3 : decode code 3 = .ok (.dup, 1) := by decide +kernel
theorem d_Law_law_4 : decode code 4 = .ok (.invokespecial 9, 3) := by decide +kernel
theorem d_Law_law_7 : decode code 7 = .ok (.astore_n 1, 1) := by decide +kernel
theorem d_Law_law_8 : decode code 8 = .ok (.new 10, 3) := by decide +kernel
theorem d_Law_law_11 : decode code 11 = .ok (.dup, 1) := by decide +kernel
theorem d_Law_law_12 : decode code 12 = .ok (.invokespecial 12, 3) := by decide +kernel
theorem d_Law_law_15 : decode code 15 = .ok (.astore_n 2, 1) := by decide +kernel
theorem d_Law_law_16 : decode code 16 = .ok (.iconst 0, 1) := by decide +kernel
theorem d_Law_law_17 : decode code 17 = .ok (.istore_n 3, 1) := by decide +kernel
theorem d_Law_law_18 : decode code 18 = .ok (.iload_n 3, 1) := by decide +kernel
theorem d_Law_law_19 : decode code 19 = .ok (.aload_n 0, 1) := by decide +kernel
theorem d_Law_law_20 : decode code 20 = .ok (.arraylength, 1) := by decide +kernel
theorem d_Law_law_21 : decode code 21 = .ok (.bipush 6, 2) := by decide +kernel
theorem d_Law_law_23 : decode code 23 = .ok (.isub, 1) := by decide +kernel
theorem d_Law_law_24 : decode code 24 = .ok (.if_icmp .gt 1653, 3) := by decide +kernel
theorem d_Law_law_27 : decode code 27 = .ok (.aload_n 0, 1) := by decide +kernel
theorem d_Law_law_28 : decode code 28 = .ok (.iload_n 3, 1) := by decide +kernel
theorem d_Law_law_29 : decode code 29 = .ok (.iaload, 1) := by decide +kernel
theorem d_Law_law_30 : decode code 30 = .ok (.bipush 63, 2) := by decide +kernel
theorem d_Law_law_32 : decode code 32 = .ok (.iand, 1) := by decide +kernel
theorem d_Law_law_33 : decode code 33 = .ok (.tableswitch 1638 0 39 #[175, 238, 261, 284, 307, 330, 363, 416, 449, 502, 525, 559, 582, 645, 678, 742, 795, 819, 913, 967, 1020, 1053, 1066, 1079, 1102, 1126, 1139, 1152, 1165, 1188, 1221, 1234, 1283, 1307, 1400, 1453, 1486, 1569, 1592, 1615], 175) := by decide +kernel
theorem d_Law_law_208 : decode code 208 = .ok (.aload_n 1, 1) := by decide +kernel
theorem d_Law_law_209 : decode code 209 = .ok (.aload_n 0, 1) := by decide +kernel
theorem d_Law_law_210 : decode code 210 = .ok (.iload_n 3, 1) := by decide +kernel
theorem d_Law_law_211 : decode code 211 = .ok (.iconst 1, 1) := by decide +kernel
theorem d_Law_law_212 : decode code 212 = .ok (.iadd, 1) := by decide +kernel
theorem d_Law_law_213 : decode code 213 = .ok (.iaload, 1) := by decide +kernel
theorem d_Law_law_214 : decode code 214 = .ok (.aload_n 0, 1) := by decide +kernel
theorem d_Law_law_215 : decode code 215 = .ok (.iload_n 3, 1) := by decide +kernel
theorem d_Law_law_216 : decode code 216 = .ok (.iconst 2, 1) := by decide +kernel
theorem d_Law_law_217 : decode code 217 = .ok (.iadd, 1) := by decide +kernel
theorem d_Law_law_218 : decode code 218 = .ok (.iaload, 1) := by decide +kernel
theorem d_Law_law_219 : decode code 219 = .ok (.aload_n 0, 1) := by decide +kernel
theorem d_Law_law_220 : decode code 220 = .ok (.iload_n 3, 1) := by decide +kernel
theorem d_Law_law_221 : decode code 221 = .ok (.iconst 3, 1) := by decide +kernel
theorem d_Law_law_222 : decode code 222 = .ok (.iadd, 1) := by decide +kernel
theorem d_Law_law_223 : decode code 223 = .ok (.iaload, 1) := by decide +kernel
theorem d_Law_law_224 : decode code 224 = .ok (.aload_n 0, 1) := by decide +kernel
theorem d_Law_law_225 : decode code 225 = .ok (.iload_n 3, 1) := by decide +kernel
theorem d_Law_law_226 : decode code 226 = .ok (.iconst 4, 1) := by decide +kernel
theorem d_Law_law_227 : decode code 227 = .ok (.iadd, 1) := by decide +kernel
theorem d_Law_law_228 : decode code 228 = .ok (.iaload, 1) := by decide +kernel
theorem d_Law_law_229 : decode code 229 = .ok (.aload_n 0, 1) := by decide +kernel
theorem d_Law_law_230 : decode code 230 = .ok (.iload_n 3, 1) := by decide +kernel
theorem d_Law_law_231 : decode code 231 = .ok (.iconst 5, 1) := by decide +kernel
theorem d_Law_law_232 : decode code 232 = .ok (.iadd, 1) := by decide +kernel
theorem d_Law_law_233 : decode code 233 = .ok (.iaload, 1) := by decide +kernel
theorem d_Law_law_234 : decode code 234 = .ok (.invokevirtual 13, 3) := by decide +kernel
theorem d_Law_law_237 : decode code 237 = .ok (.aload_n 2, 1) := by decide +kernel
theorem d_Law_law_238 : decode code 238 = .ok (.aload_n 0, 1) := by decide +kernel
theorem d_Law_law_239 : decode code 239 = .ok (.iload_n 3, 1) := by decide +kernel
theorem d_Law_law_240 : decode code 240 = .ok (.iconst 1, 1) := by decide +kernel
theorem d_Law_law_241 : decode code 241 = .ok (.iadd, 1) := by decide +kernel
theorem d_Law_law_242 : decode code 242 = .ok (.iaload, 1) := by decide +kernel
theorem d_Law_law_243 : decode code 243 = .ok (.aload_n 0, 1) := by decide +kernel
theorem d_Law_law_244 : decode code 244 = .ok (.iload_n 3, 1) := by decide +kernel
theorem d_Law_law_245 : decode code 245 = .ok (.iconst 2, 1) := by decide +kernel
theorem d_Law_law_246 : decode code 246 = .ok (.iadd, 1) := by decide +kernel
theorem d_Law_law_247 : decode code 247 = .ok (.iaload, 1) := by decide +kernel
theorem d_Law_law_248 : decode code 248 = .ok (.aload_n 0, 1) := by decide +kernel
theorem d_Law_law_249 : decode code 249 = .ok (.iload_n 3, 1) := by decide +kernel
theorem d_Law_law_250 : decode code 250 = .ok (.iconst 3, 1) := by decide +kernel
theorem d_Law_law_251 : decode code 251 = .ok (.iadd, 1) := by decide +kernel
theorem d_Law_law_252 : decode code 252 = .ok (.iaload, 1) := by decide +kernel
theorem d_Law_law_253 : decode code 253 = .ok (.aload_n 0, 1) := by decide +kernel
theorem d_Law_law_254 : decode code 254 = .ok (.iload_n 3, 1) := by decide +kernel
theorem d_Law_law_255 : decode code 255 = .ok (.iconst 4, 1) := by decide +kernel
theorem d_Law_law_256 : decode code 256 = .ok (.iadd, 1) := by decide +kernel
theorem d_Law_law_257 : decode code 257 = .ok (.iaload, 1) := by decide +kernel
theorem d_Law_law_258 : decode code 258 = .ok (.aload_n 0, 1) := by decide +kernel
theorem d_Law_law_259 : decode code 259 = .ok (.iload_n 3, 1) := by decide +kernel
theorem d_Law_law_260 : decode code 260 = .ok (.iconst 5, 1) := by decide +kernel
theorem d_Law_law_261 : decode code 261 = .ok (.iadd, 1) := by decide +kernel
theorem d_Law_law_262 : decode code 262 = .ok (.iaload, 1) := by decide +kernel
theorem d_Law_law_263 : decode code 263 = .ok (.invokevirtual 17, 3) := by decide +kernel
theorem d_Law_law_266 : decode code 266 = .ok (.if_icmp .eq 1405, 3) := by decide +kernel
theorem d_Law_law_269 : decode code 269 = .ok (.iconst 0, 1) := by decide +kernel
theorem d_Law_law_270 : decode code 270 = .ok (.ireturn, 1) := by decide +kernel
theorem d_Law_law_271 : decode code 271 = .ok (.aload_n 1, 1) := by decide +kernel
theorem d_Law_law_272 : decode code 272 = .ok (.aload_n 0, 1) := by decide +kernel
theorem d_Law_law_273 : decode code 273 = .ok (.iload_n 3, 1) := by decide +kernel
theorem d_Law_law_274 : decode code 274 = .ok (.iconst 1, 1) := by decide +kernel
theorem d_Law_law_275 : decode code 275 = .ok (.iadd, 1) := by decide +kernel
theorem d_Law_law_276 : decode code 276 = .ok (.iaload, 1) := by decide +kernel
theorem d_Law_law_277 : decode code 277 = .ok (.invokevirtual 18, 3) := by decide +kernel
theorem d_Law_law_280 : decode code 280 = .ok (.aload_n 2, 1) := by decide +kernel
theorem d_Law_law_281 : decode code 281 = .ok (.aload_n 0, 1) := by decide +kernel
theorem d_Law_law_282 : decode code 282 = .ok (.iload_n 3, 1) := by decide +kernel
theorem d_Law_law_283 : decode code 283 = .ok (.iconst 1, 1) := by decide +kernel
theorem d_Law_law_284 : decode code 284 = .ok (.iadd, 1) := by decide +kernel
theorem d_Law_law_285 : decode code 285 = .ok (.iaload, 1) := by decide +kernel
theorem d_Law_law_286 : decode code 286 = .ok (.invokevirtual 22, 3) := by decide +kernel
theorem d_Law_law_289 : decode code 289 = .ok (.if_icmp .eq 1382, 3) := by decide +kernel
theorem d_Law_law_292 : decode code 292 = .ok (.iconst 0, 1) := by decide +kernel
theorem d_Law_law_293 : decode code 293 = .ok (.ireturn, 1) := by decide +kernel
theorem d_Law_law_294 : decode code 294 = .ok (.aload_n 1, 1) := by decide +kernel
theorem d_Law_law_295 : decode code 295 = .ok (.aload_n 0, 1) := by decide +kernel
theorem d_Law_law_296 : decode code 296 = .ok (.iload_n 3, 1) := by decide +kernel
theorem d_Law_law_297 : decode code 297 = .ok (.iconst 1, 1) := by decide +kernel
theorem d_Law_law_298 : decode code 298 = .ok (.iadd, 1) := by decide +kernel
theorem d_Law_law_299 : decode code 299 = .ok (.iaload, 1) := by decide +kernel
theorem d_Law_law_300 : decode code 300 = .ok (.invokevirtual 23, 3) := by decide +kernel
theorem d_Law_law_303 : decode code 303 = .ok (.aload_n 2, 1) := by decide +kernel
theorem d_Law_law_304 : decode code 304 = .ok (.aload_n 0, 1) := by decide +kernel
theorem d_Law_law_305 : decode code 305 = .ok (.iload_n 3, 1) := by decide +kernel
theorem d_Law_law_306 : decode code 306 = .ok (.iconst 1, 1) := by decide +kernel
theorem d_Law_law_307 : decode code 307 = .ok (.iadd, 1) := by decide +kernel
theorem d_Law_law_308 : decode code 308 = .ok (.iaload, 1) := by decide +kernel
theorem d_Law_law_309 : decode code 309 = .ok (.invokevirtual 26, 3) := by decide +kernel
theorem d_Law_law_312 : decode code 312 = .ok (.if_icmp .eq 1359, 3) := by decide +kernel
theorem d_Law_law_315 : decode code 315 = .ok (.iconst 0, 1) := by decide +kernel
theorem d_Law_law_316 : decode code 316 = .ok (.ireturn, 1) := by decide +kernel
theorem d_Law_law_317 : decode code 317 = .ok (.aload_n 1, 1) := by decide +kernel
theorem d_Law_law_318 : decode code 318 = .ok (.aload_n 0, 1) := by decide +kernel
theorem d_Law_law_319 : decode code 319 = .ok (.iload_n 3, 1) := by decide +kernel
theorem d_Law_law_320 : decode code 320 = .ok (.iconst 1, 1) := by decide +kernel
theorem d_Law_law_321 : decode code 321 = .ok (.iadd, 1) := by decide +kernel
theorem d_Law_law_322 : decode code 322 = .ok (.iaload, 1) := by decide +kernel
theorem d_Law_law_323 : decode code 323 = .ok (.invokevirtual 27, 3) := by decide +kernel
theorem d_Law_law_326 : decode code 326 = .ok (.aload_n 2, 1) := by decide +kernel
theorem d_Law_law_327 : decode code 327 = .ok (.aload_n 0, 1) := by decide +kernel
theorem d_Law_law_328 : decode code 328 = .ok (.iload_n 3, 1) := by decide +kernel
theorem d_Law_law_329 : decode code 329 = .ok (.iconst 1, 1) := by decide +kernel
theorem d_Law_law_330 : decode code 330 = .ok (.iadd, 1) := by decide +kernel
theorem d_Law_law_331 : decode code 331 = .ok (.iaload, 1) := by decide +kernel
theorem d_Law_law_332 : decode code 332 = .ok (.invokevirtual 30, 3) := by decide +kernel
theorem d_Law_law_335 : decode code 335 = .ok (.if_icmp .eq 1336, 3) := by decide +kernel
theorem d_Law_law_338 : decode code 338 = .ok (.iconst 0, 1) := by decide +kernel
theorem d_Law_law_339 : decode code 339 = .ok (.ireturn, 1) := by decide +kernel
theorem d_Law_law_340 : decode code 340 = .ok (.aload_n 1, 1) := by decide +kernel
theorem d_Law_law_341 : decode code 341 = .ok (.aload_n 0, 1) := by decide +kernel
theorem d_Law_law_342 : decode code 342 = .ok (.iload_n 3, 1) := by decide +kernel
theorem d_Law_law_343 : decode code 343 = .ok (.iconst 1, 1) := by decide +kernel
theorem d_Law_law_344 : decode code 344 = .ok (.iadd, 1) := by decide +kernel
theorem d_Law_law_345 : decode code 345 = .ok (.iaload, 1) := by decide +kernel
theorem d_Law_law_346 : decode code 346 = .ok (.invokevirtual 31, 3) := by decide +kernel
theorem d_Law_law_349 : decode code 349 = .ok (.aload_n 2, 1) := by decide +kernel
theorem d_Law_law_350 : decode code 350 = .ok (.aload_n 0, 1) := by decide +kernel
theorem d_Law_law_351 : decode code 351 = .ok (.iload_n 3, 1) := by decide +kernel
theorem d_Law_law_352 : decode code 352 = .ok (.iconst 1, 1) := by decide +kernel
theorem d_Law_law_353 : decode code 353 = .ok (.iadd, 1) := by decide +kernel
theorem d_Law_law_354 : decode code 354 = .ok (.iaload, 1) := by decide +kernel
theorem d_Law_law_355 : decode code 355 = .ok (.invokevirtual 34, 3) := by decide +kernel
theorem d_Law_law_358 : decode code 358 = .ok (.if_icmp .eq 1313, 3) := by decide +kernel
theorem d_Law_law_361 : decode code 361 = .ok (.iconst 0, 1) := by decide +kernel
theorem d_Law_law_362 : decode code 362 = .ok (.ireturn, 1) := by decide +kernel
theorem d_Law_law_363 : decode code 363 = .ok (.aload_n 1, 1) := by decide +kernel
theorem d_Law_law_364 : decode code 364 = .ok (.aload_n 0, 1) := by decide +kernel
theorem d_Law_law_365 : decode code 365 = .ok (.iload_n 3, 1) := by decide +kernel
theorem d_Law_law_366 : decode code 366 = .ok (.iconst 1, 1) := by decide +kernel
theorem d_Law_law_367 : decode code 367 = .ok (.iadd, 1) := by decide +kernel
theorem d_Law_law_368 : decode code 368 = .ok (.iaload, 1) := by decide +kernel
theorem d_Law_law_369 : decode code 369 = .ok (.aload_n 0, 1) := by decide +kernel
theorem d_Law_law_370 : decode code 370 = .ok (.iload_n 3, 1) := by decide +kernel
theorem d_Law_law_371 : decode code 371 = .ok (.iconst 2, 1) := by decide +kernel
theorem d_Law_law_372 : decode code 372 = .ok (.iadd, 1) := by decide +kernel
theorem d_Law_law_373 : decode code 373 = .ok (.iaload, 1) := by decide +kernel
theorem d_Law_law_374 : decode code 374 = .ok (.invokevirtual 35, 3) := by decide +kernel
theorem d_Law_law_377 : decode code 377 = .ok (.aload_n 2, 1) := by decide +kernel
theorem d_Law_law_378 : decode code 378 = .ok (.aload_n 0, 1) := by decide +kernel
theorem d_Law_law_379 : decode code 379 = .ok (.iload_n 3, 1) := by decide +kernel
theorem d_Law_law_380 : decode code 380 = .ok (.iconst 1, 1) := by decide +kernel
theorem d_Law_law_381 : decode code 381 = .ok (.iadd, 1) := by decide +kernel
theorem d_Law_law_382 : decode code 382 = .ok (.iaload, 1) := by decide +kernel
theorem d_Law_law_383 : decode code 383 = .ok (.aload_n 0, 1) := by decide +kernel
theorem d_Law_law_384 : decode code 384 = .ok (.iload_n 3, 1) := by decide +kernel
theorem d_Law_law_385 : decode code 385 = .ok (.iconst 2, 1) := by decide +kernel
theorem d_Law_law_386 : decode code 386 = .ok (.iadd, 1) := by decide +kernel
theorem d_Law_law_387 : decode code 387 = .ok (.iaload, 1) := by decide +kernel
theorem d_Law_law_388 : decode code 388 = .ok (.invokevirtual 39, 3) := by decide +kernel
theorem d_Law_law_391 : decode code 391 = .ok (.if_icmp .eq 1280, 3) := by decide +kernel
theorem d_Law_law_394 : decode code 394 = .ok (.iconst 0, 1) := by decide +kernel
theorem d_Law_law_395 : decode code 395 = .ok (.ireturn, 1) := by decide +kernel
theorem d_Law_law_396 : decode code 396 = .ok (.aload_n 1, 1) := by decide +kernel
theorem d_Law_law_397 : decode code 397 = .ok (.aload_n 0, 1) := by decide +kernel
theorem d_Law_law_398 : decode code 398 = .ok (.iload_n 3, 1) := by decide +kernel
theorem d_Law_law_399 : decode code 399 = .ok (.iconst 1, 1) := by decide +kernel
theorem d_Law_law_400 : decode code 400 = .ok (.iadd, 1) := by decide +kernel
theorem d_Law_law_401 : decode code 401 = .ok (.iaload, 1) := by decide +kernel
theorem d_Law_law_402 : decode code 402 = .ok (.aload_n 0, 1) := by decide +kernel
theorem d_Law_law_403 : decode code 403 = .ok (.iload_n 3, 1) := by decide +kernel
theorem d_Law_law_404 : decode code 404 = .ok (.iconst 2, 1) := by decide +kernel
theorem d_Law_law_405 : decode code 405 = .ok (.iadd, 1) := by decide +kernel
theorem d_Law_law_406 : decode code 406 = .ok (.iaload, 1) := by decide +kernel
theorem d_Law_law_407 : decode code 407 = .ok (.aload_n 0, 1) := by decide +kernel
theorem d_Law_law_408 : decode code 408 = .ok (.iload_n 3, 1) := by decide +kernel
theorem d_Law_law_409 : decode code 409 = .ok (.iconst 3, 1) := by decide +kernel
theorem d_Law_law_410 : decode code 410 = .ok (.iadd, 1) := by decide +kernel
theorem d_Law_law_411 : decode code 411 = .ok (.iaload, 1) := by decide +kernel
theorem d_Law_law_412 : decode code 412 = .ok (.aload_n 0, 1) := by decide +kernel
theorem d_Law_law_413 : decode code 413 = .ok (.iload_n 3, 1) := by decide +kernel
theorem d_Law_law_414 : decode code 414 = .ok (.iconst 4, 1) := by decide +kernel
theorem d_Law_law_415 : decode code 415 = .ok (.iadd, 1) := by decide +kernel
theorem d_Law_law_416 : decode code 416 = .ok (.iaload, 1) := by decide +kernel
theorem d_Law_law_417 : decode code 417 = .ok (.invokevirtual 40, 3) := by decide +kernel
theorem d_Law_law_420 : decode code 420 = .ok (.aload_n 2, 1) := by decide +kernel
theorem d_Law_law_421 : decode code 421 = .ok (.aload_n 0, 1) := by decide +kernel
theorem d_Law_law_422 : decode code 422 = .ok (.iload_n 3, 1) := by decide +kernel
theorem d_Law_law_423 : decode code 423 = .ok (.iconst 1, 1) := by decide +kernel
theorem d_Law_law_424 : decode code 424 = .ok (.iadd, 1) := by decide +kernel
theorem d_Law_law_425 : decode code 425 = .ok (.iaload, 1) := by decide +kernel
theorem d_Law_law_426 : decode code 426 = .ok (.aload_n 0, 1) := by decide +kernel
theorem d_Law_law_427 : decode code 427 = .ok (.iload_n 3, 1) := by decide +kernel
theorem d_Law_law_428 : decode code 428 = .ok (.iconst 2, 1) := by decide +kernel
theorem d_Law_law_429 : decode code 429 = .ok (.iadd, 1) := by decide +kernel
theorem d_Law_law_430 : decode code 430 = .ok (.iaload, 1) := by decide +kernel
theorem d_Law_law_431 : decode code 431 = .ok (.aload_n 0, 1) := by decide +kernel
theorem d_Law_law_432 : decode code 432 = .ok (.iload_n 3, 1) := by decide +kernel
theorem d_Law_law_433 : decode code 433 = .ok (.iconst 3, 1) := by decide +kernel
theorem d_Law_law_434 : decode code 434 = .ok (.iadd, 1) := by decide +kernel
theorem d_Law_law_435 : decode code 435 = .ok (.iaload, 1) := by decide +kernel
theorem d_Law_law_436 : decode code 436 = .ok (.aload_n 0, 1) := by decide +kernel
theorem d_Law_law_437 : decode code 437 = .ok (.iload_n 3, 1) := by decide +kernel
theorem d_Law_law_438 : decode code 438 = .ok (.iconst 4, 1) := by decide +kernel
theorem d_Law_law_439 : decode code 439 = .ok (.iadd, 1) := by decide +kernel
theorem d_Law_law_440 : decode code 440 = .ok (.iaload, 1) := by decide +kernel
theorem d_Law_law_441 : decode code 441 = .ok (.invokevirtual 44, 3) := by decide +kernel
theorem d_Law_law_444 : decode code 444 = .ok (.if_icmp .eq 1227, 3) := by decide +kernel
theorem d_Law_law_447 : decode code 447 = .ok (.iconst 0, 1) := by decide +kernel
theorem d_Law_law_448 : decode code 448 = .ok (.ireturn, 1) := by decide +kernel
theorem d_Law_law_449 : decode code 449 = .ok (.aload_n 1, 1) := by decide +kernel
theorem d_Law_law_450 : decode code 450 = .ok (.aload_n 0, 1) := by decide +kernel
theorem d_Law_law_451 : decode code 451 = .ok (.iload_n 3, 1) := by decide +kernel
theorem d_Law_law_452 : decode code 452 = .ok (.iconst 1, 1) := by decide +kernel
theorem d_Law_law_453 : decode code 453 = .ok (.iadd, 1) := by decide +kernel
theorem d_Law_law_454 : decode code 454 = .ok (.iaload, 1) := by decide +kernel
theorem d_Law_law_455 : decode code 455 = .ok (.aload_n 0, 1) := by decide +kernel
theorem d_Law_law_456 : decode code 456 = .ok (.iload_n 3, 1) := by decide +kernel
theorem d_Law_law_457 : decode code 457 = .ok (.iconst 2, 1) := by decide +kernel
theorem d_Law_law_458 : decode code 458 = .ok (.iadd, 1) := by decide +kernel
theorem d_Law_law_459 : decode code 459 = .ok (.iaload, 1) := by decide +kernel
theorem d_Law_law_460 : decode code 460 = .ok (.invokevirtual 45, 3) := by decide +kernel
theorem d_Law_law_463 : decode code 463 = .ok (.aload_n 2, 1) := by decide +kernel
theorem d_Law_law_464 : decode code 464 = .ok (.aload_n 0, 1) := by decide +kernel
theorem d_Law_law_465 : decode code 465 = .ok (.iload_n 3, 1) := by decide +kernel
theorem d_Law_law_466 : decode code 466 = .ok (.iconst 1, 1) := by decide +kernel
theorem d_Law_law_467 : decode code 467 = .ok (.iadd, 1) := by decide +kernel
theorem d_Law_law_468 : decode code 468 = .ok (.iaload, 1) := by decide +kernel
theorem d_Law_law_469 : decode code 469 = .ok (.aload_n 0, 1) := by decide +kernel
theorem d_Law_law_470 : decode code 470 = .ok (.iload_n 3, 1) := by decide +kernel
theorem d_Law_law_471 : decode code 471 = .ok (.iconst 2, 1) := by decide +kernel
theorem d_Law_law_472 : decode code 472 = .ok (.iadd, 1) := by decide +kernel
theorem d_Law_law_473 : decode code 473 = .ok (.iaload, 1) := by decide +kernel
theorem d_Law_law_474 : decode code 474 = .ok (.invokevirtual 48, 3) := by decide +kernel
theorem d_Law_law_477 : decode code 477 = .ok (.if_icmp .eq 1194, 3) := by decide +kernel
theorem d_Law_law_480 : decode code 480 = .ok (.iconst 0, 1) := by decide +kernel
theorem d_Law_law_481 : decode code 481 = .ok (.ireturn, 1) := by decide +kernel
theorem d_Law_law_482 : decode code 482 = .ok (.aload_n 1, 1) := by decide +kernel
theorem d_Law_law_483 : decode code 483 = .ok (.aload_n 0, 1) := by decide +kernel
theorem d_Law_law_484 : decode code 484 = .ok (.iload_n 3, 1) := by decide +kernel
theorem d_Law_law_485 : decode code 485 = .ok (.iconst 1, 1) := by decide +kernel
theorem d_Law_law_486 : decode code 486 = .ok (.iadd, 1) := by decide +kernel
theorem d_Law_law_487 : decode code 487 = .ok (.iaload, 1) := by decide +kernel
theorem d_Law_law_488 : decode code 488 = .ok (.aload_n 0, 1) := by decide +kernel
theorem d_Law_law_489 : decode code 489 = .ok (.iload_n 3, 1) := by decide +kernel
theorem d_Law_law_490 : decode code 490 = .ok (.iconst 2, 1) := by decide +kernel
theorem d_Law_law_491 : decode code 491 = .ok (.iadd, 1) := by decide +kernel
theorem d_Law_law_492 : decode code 492 = .ok (.iaload, 1) := by decide +kernel
theorem d_Law_law_493 : decode code 493 = .ok (.aload_n 0, 1) := by decide +kernel
theorem d_Law_law_494 : decode code 494 = .ok (.iload_n 3, 1) := by decide +kernel
theorem d_Law_law_495 : decode code 495 = .ok (.iconst 3, 1) := by decide +kernel
theorem d_Law_law_496 : decode code 496 = .ok (.iadd, 1) := by decide +kernel
theorem d_Law_law_497 : decode code 497 = .ok (.iaload, 1) := by decide +kernel
theorem d_Law_law_498 : decode code 498 = .ok (.aload_n 0, 1) := by decide +kernel
theorem d_Law_law_499 : decode code 499 = .ok (.iload_n 3, 1) := by decide +kernel
theorem d_Law_law_500 : decode code 500 = .ok (.iconst 4, 1) := by decide +kernel
theorem d_Law_law_501 : decode code 501 = .ok (.iadd, 1) := by decide +kernel
theorem d_Law_law_502 : decode code 502 = .ok (.iaload, 1) := by decide +kernel
theorem d_Law_law_503 : decode code 503 = .ok (.invokevirtual 49, 3) := by decide +kernel
theorem d_Law_law_506 : decode code 506 = .ok (.aload_n 2, 1) := by decide +kernel
theorem d_Law_law_507 : decode code 507 = .ok (.aload_n 0, 1) := by decide +kernel
theorem d_Law_law_508 : decode code 508 = .ok (.iload_n 3, 1) := by decide +kernel
theorem d_Law_law_509 : decode code 509 = .ok (.iconst 1, 1) := by decide +kernel
theorem d_Law_law_510 : decode code 510 = .ok (.iadd, 1) := by decide +kernel
theorem d_Law_law_511 : decode code 511 = .ok (.iaload, 1) := by decide +kernel
theorem d_Law_law_512 : decode code 512 = .ok (.aload_n 0, 1) := by decide +kernel
theorem d_Law_law_513 : decode code 513 = .ok (.iload_n 3, 1) := by decide +kernel
theorem d_Law_law_514 : decode code 514 = .ok (.iconst 2, 1) := by decide +kernel
theorem d_Law_law_515 : decode code 515 = .ok (.iadd, 1) := by decide +kernel
theorem d_Law_law_516 : decode code 516 = .ok (.iaload, 1) := by decide +kernel
theorem d_Law_law_517 : decode code 517 = .ok (.aload_n 0, 1) := by decide +kernel
theorem d_Law_law_518 : decode code 518 = .ok (.iload_n 3, 1) := by decide +kernel
theorem d_Law_law_519 : decode code 519 = .ok (.iconst 3, 1) := by decide +kernel
theorem d_Law_law_520 : decode code 520 = .ok (.iadd, 1) := by decide +kernel
theorem d_Law_law_521 : decode code 521 = .ok (.iaload, 1) := by decide +kernel
theorem d_Law_law_522 : decode code 522 = .ok (.aload_n 0, 1) := by decide +kernel
theorem d_Law_law_523 : decode code 523 = .ok (.iload_n 3, 1) := by decide +kernel
theorem d_Law_law_524 : decode code 524 = .ok (.iconst 4, 1) := by decide +kernel
theorem d_Law_law_525 : decode code 525 = .ok (.iadd, 1) := by decide +kernel
theorem d_Law_law_526 : decode code 526 = .ok (.iaload, 1) := by decide +kernel
theorem d_Law_law_527 : decode code 527 = .ok (.invokevirtual 52, 3) := by decide +kernel
theorem d_Law_law_530 : decode code 530 = .ok (.if_icmp .eq 1141, 3) := by decide +kernel
theorem d_Law_law_533 : decode code 533 = .ok (.iconst 0, 1) := by decide +kernel
theorem d_Law_law_534 : decode code 534 = .ok (.ireturn, 1) := by decide +kernel
theorem d_Law_law_535 : decode code 535 = .ok (.aload_n 1, 1) := by decide +kernel
theorem d_Law_law_536 : decode code 536 = .ok (.aload_n 0, 1) := by decide +kernel
theorem d_Law_law_537 : decode code 537 = .ok (.iload_n 3, 1) := by decide +kernel
theorem d_Law_law_538 : decode code 538 = .ok (.iconst 1, 1) := by decide +kernel
theorem d_Law_law_539 : decode code 539 = .ok (.iadd, 1) := by decide +kernel
theorem d_Law_law_540 : decode code 540 = .ok (.iaload, 1) := by decide +kernel
theorem d_Law_law_541 : decode code 541 = .ok (.invokevirtual 53, 3) := by decide +kernel
theorem d_Law_law_544 : decode code 544 = .ok (.aload_n 2, 1) := by decide +kernel
theorem d_Law_law_545 : decode code 545 = .ok (.aload_n 0, 1) := by decide +kernel
theorem d_Law_law_546 : decode code 546 = .ok (.iload_n 3, 1) := by decide +kernel
theorem d_Law_law_547 : decode code 547 = .ok (.iconst 1, 1) := by decide +kernel
theorem d_Law_law_548 : decode code 548 = .ok (.iadd, 1) := by decide +kernel
theorem d_Law_law_549 : decode code 549 = .ok (.iaload, 1) := by decide +kernel
theorem d_Law_law_550 : decode code 550 = .ok (.invokevirtual 56, 3) := by decide +kernel
theorem d_Law_law_553 : decode code 553 = .ok (.if_icmp .eq 1118, 3) := by decide +kernel
theorem d_Law_law_556 : decode code 556 = .ok (.iconst 0, 1) := by decide +kernel
theorem d_Law_law_557 : decode code 557 = .ok (.ireturn, 1) := by decide +kernel
theorem d_Law_law_558 : decode code 558 = .ok (.aload_n 1, 1) := by decide +kernel
theorem d_Law_law_559 : decode code 559 = .ok (.aload_n 0, 1) := by decide +kernel
theorem d_Law_law_560 : decode code 560 = .ok (.iload_n 3, 1) := by decide +kernel
theorem d_Law_law_561 : decode code 561 = .ok (.iconst 1, 1) := by decide +kernel
theorem d_Law_law_562 : decode code 562 = .ok (.iadd, 1) := by decide +kernel
theorem d_Law_law_563 : decode code 563 = .ok (.iaload, 1) := by decide +kernel
theorem d_Law_law_564 : decode code 564 = .ok (.aload_n 0, 1) := by decide +kernel
theorem d_Law_law_565 : decode code 565 = .ok (.iload_n 3, 1) := by decide +kernel
theorem d_Law_law_566 : decode code 566 = .ok (.iconst 2, 1) := by decide +kernel
theorem d_Law_law_567 : decode code 567 = .ok (.iadd, 1) := by decide +kernel
theorem d_Law_law_568 : decode code 568 = .ok (.iaload, 1) := by decide +kernel
theorem d_Law_law_569 : decode code 569 = .ok (.invokevirtual 57, 3) := by decide +kernel
theorem d_Law_law_572 : decode code 572 = .ok (.aload_n 2, 1) := by decide +kernel
theorem d_Law_law_573 : decode code 573 = .ok (.aload_n 0, 1) := by decide +kernel
theorem d_Law_law_574 : decode code 574 = .ok (.iload_n 3, 1) := by decide +kernel
theorem d_Law_law_575 : decode code 575 = .ok (.iconst 1, 1) := by decide +kernel
theorem d_Law_law_576 : decode code 576 = .ok (.iadd, 1) := by decide +kernel
theorem d_Law_law_577 : decode code 577 = .ok (.iaload, 1) := by decide +kernel
theorem d_Law_law_578 : decode code 578 = .ok (.aload_n 0, 1) := by decide +kernel
theorem d_Law_law_579 : decode code 579 = .ok (.iload_n 3, 1) := by decide +kernel
theorem d_Law_law_580 : decode code 580 = .ok (.iconst 2, 1) := by decide +kernel
theorem d_Law_law_581 : decode code 581 = .ok (.iadd, 1) := by decide +kernel
theorem d_Law_law_582 : decode code 582 = .ok (.iaload, 1) := by decide +kernel
theorem d_Law_law_583 : decode code 583 = .ok (.invokevirtual 61, 3) := by decide +kernel
theorem d_Law_law_586 : decode code 586 = .ok (.lcmp, 1) := by decide +kernel
theorem d_Law_law_587 : decode code 587 = .ok (.ifCond .eq 1084, 3) := by decide +kernel
theorem d_Law_law_590 : decode code 590 = .ok (.iconst 0, 1) := by decide +kernel
theorem d_Law_law_591 : decode code 591 = .ok (.ireturn, 1) := by decide +kernel
theorem d_Law_law_592 : decode code 592 = .ok (.aload_n 1, 1) := by decide +kernel
theorem d_Law_law_593 : decode code 593 = .ok (.aload_n 0, 1) := by decide +kernel
theorem d_Law_law_594 : decode code 594 = .ok (.iload_n 3, 1) := by decide +kernel
theorem d_Law_law_595 : decode code 595 = .ok (.iconst 1, 1) := by decide +kernel
theorem d_Law_law_596 : decode code 596 = .ok (.iadd, 1) := by decide +kernel
theorem d_Law_law_597 : decode code 597 = .ok (.iaload, 1) := by decide +kernel
theorem d_Law_law_598 : decode code 598 = .ok (.invokevirtual 62, 3) := by decide +kernel
theorem d_Law_law_601 : decode code 601 = .ok (.aload_n 2, 1) := by decide +kernel
theorem d_Law_law_602 : decode code 602 = .ok (.aload_n 0, 1) := by decide +kernel
theorem d_Law_law_603 : decode code 603 = .ok (.iload_n 3, 1) := by decide +kernel
theorem d_Law_law_604 : decode code 604 = .ok (.iconst 1, 1) := by decide +kernel
theorem d_Law_law_605 : decode code 605 = .ok (.iadd, 1) := by decide +kernel
theorem d_Law_law_606 : decode code 606 = .ok (.iaload, 1) := by decide +kernel
theorem d_Law_law_607 : decode code 607 = .ok (.invokevirtual 65, 3) := by decide +kernel
theorem d_Law_law_610 : decode code 610 = .ok (.if_icmp .eq 1061, 3) := by decide +kernel
theorem d_Law_law_613 : decode code 613 = .ok (.iconst 0, 1) := by decide +kernel
theorem d_Law_law_614 : decode code 614 = .ok (.ireturn, 1) := by decide +kernel
theorem d_Law_law_615 : decode code 615 = .ok (.aload_n 1, 1) := by decide +kernel
theorem d_Law_law_616 : decode code 616 = .ok (.aload_n 0, 1) := by decide +kernel
theorem d_Law_law_617 : decode code 617 = .ok (.iload_n 3, 1) := by decide +kernel
theorem d_Law_law_618 : decode code 618 = .ok (.iconst 1, 1) := by decide +kernel
theorem d_Law_law_619 : decode code 619 = .ok (.iadd, 1) := by decide +kernel
theorem d_Law_law_620 : decode code 620 = .ok (.iaload, 1) := by decide +kernel
theorem d_Law_law_621 : decode code 621 = .ok (.aload_n 0, 1) := by decide +kernel
theorem d_Law_law_622 : decode code 622 = .ok (.iload_n 3, 1) := by decide +kernel
theorem d_Law_law_623 : decode code 623 = .ok (.iconst 2, 1) := by decide +kernel
theorem d_Law_law_624 : decode code 624 = .ok (.iadd, 1) := by decide +kernel
theorem d_Law_law_625 : decode code 625 = .ok (.iaload, 1) := by decide +kernel
theorem d_Law_law_626 : decode code 626 = .ok (.i2l, 1) := by decide +kernel
theorem d_Law_law_627 : decode code 627 = .ok (.bipush 32, 2) := by decide +kernel
theorem d_Law_law_629 : decode code 629 = .ok (.lshl, 1) := by decide +kernel
theorem d_Law_law_630 : decode code 630 = .ok (.aload_n 0, 1) := by decide +kernel
theorem d_Law_law_631 : decode code 631 = .ok (.iload_n 3, 1) := by decide +kernel
theorem d_Law_law_632 : decode code 632 = .ok (.iconst 3, 1) := by decide +kernel
theorem d_Law_law_633 : decode code 633 = .ok (.iadd, 1) := by decide +kernel
theorem d_Law_law_634 : decode code 634 = .ok (.iaload, 1) := by decide +kernel
theorem d_Law_law_635 : decode code 635 = .ok (.i2l, 1) := by decide +kernel
theorem d_Law_law_636 : decode code 636 = .ok (.ldc2_w 66, 3) := by decide +kernel
theorem d_Law_law_639 : decode code 639 = .ok (.land, 1) := by decide +kernel
theorem d_Law_law_640 : decode code 640 = .ok (.lor, 1) := by decide +kernel
theorem d_Law_law_641 : decode code 641 = .ok (.invokevirtual 68, 3) := by decide +kernel
theorem d_Law_law_644 : decode code 644 = .ok (.aload_n 2, 1) := by decide +kernel
theorem d_Law_law_645 : decode code 645 = .ok (.aload_n 0, 1) := by decide +kernel
theorem d_Law_law_646 : decode code 646 = .ok (.iload_n 3, 1) := by decide +kernel
theorem d_Law_law_647 : decode code 647 = .ok (.iconst 1, 1) := by decide +kernel
theorem d_Law_law_648 : decode code 648 = .ok (.iadd, 1) := by decide +kernel
theorem d_Law_law_649 : decode code 649 = .ok (.iaload, 1) := by decide +kernel
theorem d_Law_law_650 : decode code 650 = .ok (.aload_n 0, 1) := by decide +kernel
theorem d_Law_law_651 : decode code 651 = .ok (.iload_n 3, 1) := by decide +kernel
theorem d_Law_law_652 : decode code 652 = .ok (.iconst 2, 1) := by decide +kernel
theorem d_Law_law_653 : decode code 653 = .ok (.iadd, 1) := by decide +kernel
theorem d_Law_law_654 : decode code 654 = .ok (.iaload, 1) := by decide +kernel
theorem d_Law_law_655 : decode code 655 = .ok (.i2l, 1) := by decide +kernel
theorem d_Law_law_656 : decode code 656 = .ok (.bipush 32, 2) := by decide +kernel
theorem d_Law_law_658 : decode code 658 = .ok (.lshl, 1) := by decide +kernel
theorem d_Law_law_659 : decode code 659 = .ok (.aload_n 0, 1) := by decide +kernel
theorem d_Law_law_660 : decode code 660 = .ok (.iload_n 3, 1) := by decide +kernel
theorem d_Law_law_661 : decode code 661 = .ok (.iconst 3, 1) := by decide +kernel
theorem d_Law_law_662 : decode code 662 = .ok (.iadd, 1) := by decide +kernel
theorem d_Law_law_663 : decode code 663 = .ok (.iaload, 1) := by decide +kernel
theorem d_Law_law_664 : decode code 664 = .ok (.i2l, 1) := by decide +kernel
theorem d_Law_law_665 : decode code 665 = .ok (.ldc2_w 66, 3) := by decide +kernel
theorem d_Law_law_668 : decode code 668 = .ok (.land, 1) := by decide +kernel
theorem d_Law_law_669 : decode code 669 = .ok (.lor, 1) := by decide +kernel
theorem d_Law_law_670 : decode code 670 = .ok (.invokevirtual 72, 3) := by decide +kernel
theorem d_Law_law_673 : decode code 673 = .ok (.if_icmp .eq 998, 3) := by decide +kernel
theorem d_Law_law_676 : decode code 676 = .ok (.iconst 0, 1) := by decide +kernel
theorem d_Law_law_677 : decode code 677 = .ok (.ireturn, 1) := by decide +kernel
theorem d_Law_law_678 : decode code 678 = .ok (.aload_n 1, 1) := by decide +kernel
theorem d_Law_law_679 : decode code 679 = .ok (.aload_n 0, 1) := by decide +kernel
theorem d_Law_law_680 : decode code 680 = .ok (.iload_n 3, 1) := by decide +kernel
theorem d_Law_law_681 : decode code 681 = .ok (.iconst 1, 1) := by decide +kernel
theorem d_Law_law_682 : decode code 682 = .ok (.iadd, 1) := by decide +kernel
theorem d_Law_law_683 : decode code 683 = .ok (.iaload, 1) := by decide +kernel
theorem d_Law_law_684 : decode code 684 = .ok (.aload_n 0, 1) := by decide +kernel
theorem d_Law_law_685 : decode code 685 = .ok (.iload_n 3, 1) := by decide +kernel
theorem d_Law_law_686 : decode code 686 = .ok (.iconst 2, 1) := by decide +kernel
theorem d_Law_law_687 : decode code 687 = .ok (.iadd, 1) := by decide +kernel
theorem d_Law_law_688 : decode code 688 = .ok (.iaload, 1) := by decide +kernel
theorem d_Law_law_689 : decode code 689 = .ok (.invokevirtual 73, 3) := by decide +kernel
theorem d_Law_law_692 : decode code 692 = .ok (.aload_n 2, 1) := by decide +kernel
theorem d_Law_law_693 : decode code 693 = .ok (.aload_n 0, 1) := by decide +kernel
theorem d_Law_law_694 : decode code 694 = .ok (.iload_n 3, 1) := by decide +kernel
theorem d_Law_law_695 : decode code 695 = .ok (.iconst 1, 1) := by decide +kernel
theorem d_Law_law_696 : decode code 696 = .ok (.iadd, 1) := by decide +kernel
theorem d_Law_law_697 : decode code 697 = .ok (.iaload, 1) := by decide +kernel
theorem d_Law_law_698 : decode code 698 = .ok (.aload_n 0, 1) := by decide +kernel
theorem d_Law_law_699 : decode code 699 = .ok (.iload_n 3, 1) := by decide +kernel
theorem d_Law_law_700 : decode code 700 = .ok (.iconst 2, 1) := by decide +kernel
theorem d_Law_law_701 : decode code 701 = .ok (.iadd, 1) := by decide +kernel
theorem d_Law_law_702 : decode code 702 = .ok (.iaload, 1) := by decide +kernel
theorem d_Law_law_703 : decode code 703 = .ok (.invokevirtual 76, 3) := by decide +kernel
theorem d_Law_law_706 : decode code 706 = .ok (.if_icmp .eq 965, 3) := by decide +kernel
theorem d_Law_law_709 : decode code 709 = .ok (.iconst 0, 1) := by decide +kernel
theorem d_Law_law_710 : decode code 710 = .ok (.ireturn, 1) := by decide +kernel
theorem d_Law_law_711 : decode code 711 = .ok (.aload_n 1, 1) := by decide +kernel
theorem d_Law_law_712 : decode code 712 = .ok (.aload_n 0, 1) := by decide +kernel
theorem d_Law_law_713 : decode code 713 = .ok (.iload_n 3, 1) := by decide +kernel
theorem d_Law_law_714 : decode code 714 = .ok (.iconst 1, 1) := by decide +kernel
theorem d_Law_law_715 : decode code 715 = .ok (.iadd, 1) := by decide +kernel
theorem d_Law_law_716 : decode code 716 = .ok (.iaload, 1) := by decide +kernel
theorem d_Law_law_717 : decode code 717 = .ok (.i2l, 1) := by decide +kernel
theorem d_Law_law_718 : decode code 718 = .ok (.bipush 32, 2) := by decide +kernel
theorem d_Law_law_720 : decode code 720 = .ok (.lshl, 1) := by decide +kernel
theorem d_Law_law_721 : decode code 721 = .ok (.aload_n 0, 1) := by decide +kernel
theorem d_Law_law_722 : decode code 722 = .ok (.iload_n 3, 1) := by decide +kernel
theorem d_Law_law_723 : decode code 723 = .ok (.iconst 2, 1) := by decide +kernel
theorem d_Law_law_724 : decode code 724 = .ok (.iadd, 1) := by decide +kernel
theorem d_Law_law_725 : decode code 725 = .ok (.iaload, 1) := by decide +kernel
theorem d_Law_law_726 : decode code 726 = .ok (.i2l, 1) := by decide +kernel
theorem d_Law_law_727 : decode code 727 = .ok (.ldc2_w 66, 3) := by decide +kernel
theorem d_Law_law_730 : decode code 730 = .ok (.land, 1) := by decide +kernel
theorem d_Law_law_731 : decode code 731 = .ok (.lor, 1) := by decide +kernel
theorem d_Law_law_732 : decode code 732 = .ok (.aload_n 0, 1) := by decide +kernel
theorem d_Law_law_733 : decode code 733 = .ok (.iload_n 3, 1) := by decide +kernel
theorem d_Law_law_734 : decode code 734 = .ok (.iconst 3, 1) := by decide +kernel
theorem d_Law_law_735 : decode code 735 = .ok (.iadd, 1) := by decide +kernel
theorem d_Law_law_736 : decode code 736 = .ok (.iaload, 1) := by decide +kernel
theorem d_Law_law_737 : decode code 737 = .ok (.invokevirtual 77, 3) := by decide +kernel
theorem d_Law_law_740 : decode code 740 = .ok (.aload_n 2, 1) := by decide +kernel
theorem d_Law_law_741 : decode code 741 = .ok (.aload_n 0, 1) := by decide +kernel
theorem d_Law_law_742 : decode code 742 = .ok (.iload_n 3, 1) := by decide +kernel
theorem d_Law_law_743 : decode code 743 = .ok (.iconst 1, 1) := by decide +kernel
theorem d_Law_law_744 : decode code 744 = .ok (.iadd, 1) := by decide +kernel
theorem d_Law_law_745 : decode code 745 = .ok (.iaload, 1) := by decide +kernel
theorem d_Law_law_746 : decode code 746 = .ok (.i2l, 1) := by decide +kernel
theorem d_Law_law_747 : decode code 747 = .ok (.bipush 32, 2) := by decide +kernel
theorem d_Law_law_749 : decode code 749 = .ok (.lshl, 1) := by decide +kernel
theorem d_Law_law_750 : decode code 750 = .ok (.aload_n 0, 1) := by decide +kernel
theorem d_Law_law_751 : decode code 751 = .ok (.iload_n 3, 1) := by decide +kernel
theorem d_Law_law_752 : decode code 752 = .ok (.iconst 2, 1) := by decide +kernel
theorem d_Law_law_753 : decode code 753 = .ok (.iadd, 1) := by decide +kernel
theorem d_Law_law_754 : decode code 754 = .ok (.iaload, 1) := by decide +kernel
theorem d_Law_law_755 : decode code 755 = .ok (.i2l, 1) := by decide +kernel
theorem d_Law_law_756 : decode code 756 = .ok (.ldc2_w 66, 3) := by decide +kernel
theorem d_Law_law_759 : decode code 759 = .ok (.land, 1) := by decide +kernel
theorem d_Law_law_760 : decode code 760 = .ok (.lor, 1) := by decide +kernel
theorem d_Law_law_761 : decode code 761 = .ok (.aload_n 0, 1) := by decide +kernel
theorem d_Law_law_762 : decode code 762 = .ok (.iload_n 3, 1) := by decide +kernel
theorem d_Law_law_763 : decode code 763 = .ok (.iconst 3, 1) := by decide +kernel
theorem d_Law_law_764 : decode code 764 = .ok (.iadd, 1) := by decide +kernel
theorem d_Law_law_765 : decode code 765 = .ok (.iaload, 1) := by decide +kernel
theorem d_Law_law_766 : decode code 766 = .ok (.invokevirtual 81, 3) := by decide +kernel
theorem d_Law_law_769 : decode code 769 = .ok (.lcmp, 1) := by decide +kernel
theorem d_Law_law_770 : decode code 770 = .ok (.ifCond .eq 901, 3) := by decide +kernel
theorem d_Law_law_773 : decode code 773 = .ok (.iconst 0, 1) := by decide +kernel
theorem d_Law_law_774 : decode code 774 = .ok (.ireturn, 1) := by decide +kernel
theorem d_Law_law_775 : decode code 775 = .ok (.aload_n 1, 1) := by decide +kernel
theorem d_Law_law_776 : decode code 776 = .ok (.aload_n 0, 1) := by decide +kernel
theorem d_Law_law_777 : decode code 777 = .ok (.iload_n 3, 1) := by decide +kernel
theorem d_Law_law_778 : decode code 778 = .ok (.iconst 1, 1) := by decide +kernel
theorem d_Law_law_779 : decode code 779 = .ok (.iadd, 1) := by decide +kernel
theorem d_Law_law_780 : decode code 780 = .ok (.iaload, 1) := by decide +kernel
theorem d_Law_law_781 : decode code 781 = .ok (.i2l, 1) := by decide +kernel
theorem d_Law_law_782 : decode code 782 = .ok (.bipush 32, 2) := by decide +kernel
theorem d_Law_law_784 : decode code 784 = .ok (.lshl, 1) := by decide +kernel
theorem d_Law_law_785 : decode code 785 = .ok (.aload_n 0, 1) := by decide +kernel
theorem d_Law_law_786 : decode code 786 = .ok (.iload_n 3, 1) := by decide +kernel
theorem d_Law_law_787 : decode code 787 = .ok (.iconst 2, 1) := by decide +kernel
theorem d_Law_law_788 : decode code 788 = .ok (.iadd, 1) := by decide +kernel
theorem d_Law_law_789 : decode code 789 = .ok (.iaload, 1) := by decide +kernel
theorem d_Law_law_790 : decode code 790 = .ok (.i2l, 1) := by decide +kernel
theorem d_Law_law_791 : decode code 791 = .ok (.ldc2_w 66, 3) := by decide +kernel
theorem d_Law_law_794 : decode code 794 = .ok (.land, 1) := by decide +kernel
theorem d_Law_law_795 : decode code 795 = .ok (.lor, 1) := by decide +kernel
theorem d_Law_law_796 : decode code 796 = .ok (.invokevirtual 82, 3) := by decide +kernel
theorem d_Law_law_799 : decode code 799 = .ok (.aload_n 2, 1) := by decide +kernel
theorem d_Law_law_800 : decode code 800 = .ok (.aload_n 0, 1) := by decide +kernel
theorem d_Law_law_801 : decode code 801 = .ok (.iload_n 3, 1) := by decide +kernel
theorem d_Law_law_802 : decode code 802 = .ok (.iconst 1, 1) := by decide +kernel
theorem d_Law_law_803 : decode code 803 = .ok (.iadd, 1) := by decide +kernel
theorem d_Law_law_804 : decode code 804 = .ok (.iaload, 1) := by decide +kernel
theorem d_Law_law_805 : decode code 805 = .ok (.i2l, 1) := by decide +kernel
theorem d_Law_law_806 : decode code 806 = .ok (.bipush 32, 2) := by decide +kernel
theorem d_Law_law_808 : decode code 808 = .ok (.lshl, 1) := by decide +kernel
theorem d_Law_law_809 : decode code 809 = .ok (.aload_n 0, 1) := by decide +kernel
theorem d_Law_law_810 : decode code 810 = .ok (.iload_n 3, 1) := by decide +kernel
theorem d_Law_law_811 : decode code 811 = .ok (.iconst 2, 1) := by decide +kernel
theorem d_Law_law_812 : decode code 812 = .ok (.iadd, 1) := by decide +kernel
theorem d_Law_law_813 : decode code 813 = .ok (.iaload, 1) := by decide +kernel
theorem d_Law_law_814 : decode code 814 = .ok (.i2l, 1) := by decide +kernel
theorem d_Law_law_815 : decode code 815 = .ok (.ldc2_w 66, 3) := by decide +kernel
theorem d_Law_law_818 : decode code 818 = .ok (.land, 1) := by decide +kernel
theorem d_Law_law_819 : decode code 819 = .ok (.lor, 1) := by decide +kernel
theorem d_Law_law_820 : decode code 820 = .ok (.invokevirtual 86, 3) := by decide +kernel
theorem d_Law_law_823 : decode code 823 = .ok (.if_icmp .eq 848, 3) := by decide +kernel
theorem d_Law_law_826 : decode code 826 = .ok (.iconst 0, 1) := by decide +kernel
theorem d_Law_law_827 : decode code 827 = .ok (.ireturn, 1) := by decide +kernel
theorem d_Law_law_828 : decode code 828 = .ok (.aload_n 1, 1) := by decide +kernel
theorem d_Law_law_829 : decode code 829 = .ok (.aload_n 0, 1) := by decide +kernel
theorem d_Law_law_830 : decode code 830 = .ok (.iload_n 3, 1) := by decide +kernel
theorem d_Law_law_831 : decode code 831 = .ok (.iconst 1, 1) := by decide +kernel
theorem d_Law_law_832 : decode code 832 = .ok (.iadd, 1) := by decide +kernel
theorem d_Law_law_833 : decode code 833 = .ok (.iaload, 1) := by decide +kernel
theorem d_Law_law_834 : decode code 834 = .ok (.invokevirtual 87, 3) := by decide +kernel
theorem d_Law_law_837 : decode code 837 = .ok (.aload_n 2, 1) := by decide +kernel
theorem d_Law_law_838 : decode code 838 = .ok (.aload_n 0, 1) := by decide +kernel
theorem d_Law_law_839 : decode code 839 = .ok (.iload_n 3, 1) := by decide +kernel
theorem d_Law_law_840 : decode code 840 = .ok (.iconst 1, 1) := by decide +kernel
theorem d_Law_law_841 : decode code 841 = .ok (.iadd, 1) := by decide +kernel
theorem d_Law_law_842 : decode code 842 = .ok (.iaload, 1) := by decide +kernel
theorem d_Law_law_843 : decode code 843 = .ok (.invokevirtual 91, 3) := by decide +kernel
theorem d_Law_law_846 : decode code 846 = .ok (.lcmp, 1) := by decide +kernel
theorem d_Law_law_847 : decode code 847 = .ok (.ifCond .eq 824, 3) := by decide +kernel
theorem d_Law_law_850 : decode code 850 = .ok (.iconst 0, 1) := by decide +kernel
theorem d_Law_law_851 : decode code 851 = .ok (.ireturn, 1) := by decide +kernel
theorem d_Law_law_852 : decode code 852 = .ok (.aload_n 1, 1) := by decide +kernel
theorem d_Law_law_853 : decode code 853 = .ok (.aload_n 0, 1) := by decide +kernel
theorem d_Law_law_854 : decode code 854 = .ok (.iload_n 3, 1) := by decide +kernel
theorem d_Law_law_855 : decode code 855 = .ok (.iconst 1, 1) := by decide +kernel
theorem d_Law_law_856 : decode code 856 = .ok (.iadd, 1) := by decide +kernel
theorem d_Law_law_857 : decode code 857 = .ok (.iaload, 1) := by decide +kernel
theorem d_Law_law_858 : decode code 858 = .ok (.i2l, 1) := by decide +kernel
theorem d_Law_law_859 : decode code 859 = .ok (.bipush 32, 2) := by decide +kernel
theorem d_Law_law_861 : decode code 861 = .ok (.lshl, 1) := by decide +kernel
theorem d_Law_law_862 : decode code 862 = .ok (.aload_n 0, 1) := by decide +kernel
theorem d_Law_law_863 : decode code 863 = .ok (.iload_n 3, 1) := by decide +kernel
theorem d_Law_law_864 : decode code 864 = .ok (.iconst 2, 1) := by decide +kernel
theorem d_Law_law_865 : decode code 865 = .ok (.iadd, 1) := by decide +kernel
theorem d_Law_law_866 : decode code 866 = .ok (.iaload, 1) := by decide +kernel
theorem d_Law_law_867 : decode code 867 = .ok (.i2l, 1) := by decide +kernel
theorem d_Law_law_868 : decode code 868 = .ok (.ldc2_w 66, 3) := by decide +kernel
theorem d_Law_law_871 : decode code 871 = .ok (.land, 1) := by decide +kernel
theorem d_Law_law_872 : decode code 872 = .ok (.lor, 1) := by decide +kernel
theorem d_Law_law_873 : decode code 873 = .ok (.aload_n 0, 1) := by decide +kernel
theorem d_Law_law_874 : decode code 874 = .ok (.iload_n 3, 1) := by decide +kernel
theorem d_Law_law_875 : decode code 875 = .ok (.iconst 3, 1) := by decide +kernel
theorem d_Law_law_876 : decode code 876 = .ok (.iadd, 1) := by decide +kernel
theorem d_Law_law_877 : decode code 877 = .ok (.iaload, 1) := by decide +kernel
theorem d_Law_law_878 : decode code 878 = .ok (.i2l, 1) := by decide +kernel
theorem d_Law_law_879 : decode code 879 = .ok (.bipush 32, 2) := by decide +kernel
theorem d_Law_law_881 : decode code 881 = .ok (.lshl, 1) := by decide +kernel
theorem d_Law_law_882 : decode code 882 = .ok (.aload_n 0, 1) := by decide +kernel
theorem d_Law_law_883 : decode code 883 = .ok (.iload_n 3, 1) := by decide +kernel
theorem d_Law_law_884 : decode code 884 = .ok (.iconst 4, 1) := by decide +kernel
theorem d_Law_law_885 : decode code 885 = .ok (.iadd, 1) := by decide +kernel
theorem d_Law_law_886 : decode code 886 = .ok (.iaload, 1) := by decide +kernel
theorem d_Law_law_887 : decode code 887 = .ok (.i2l, 1) := by decide +kernel
theorem d_Law_law_888 : decode code 888 = .ok (.ldc2_w 66, 3) := by decide +kernel
theorem d_Law_law_891 : decode code 891 = .ok (.land, 1) := by decide +kernel
theorem d_Law_law_892 : decode code 892 = .ok (.lor, 1) := by decide +kernel
theorem d_Law_law_893 : decode code 893 = .ok (.invokevirtual 92, 3) := by decide +kernel
theorem d_Law_law_896 : decode code 896 = .ok (.aload_n 2, 1) := by decide +kernel
theorem d_Law_law_897 : decode code 897 = .ok (.aload_n 0, 1) := by decide +kernel
theorem d_Law_law_898 : decode code 898 = .ok (.iload_n 3, 1) := by decide +kernel
theorem d_Law_law_899 : decode code 899 = .ok (.iconst 1, 1) := by decide +kernel
theorem d_Law_law_900 : decode code 900 = .ok (.iadd, 1) := by decide +kernel
theorem d_Law_law_901 : decode code 901 = .ok (.iaload, 1) := by decide +kernel
theorem d_Law_law_902 : decode code 902 = .ok (.i2l, 1) := by decide +kernel
theorem d_Law_law_903 : decode code 903 = .ok (.bipush 32, 2) := by decide +kernel
theorem d_Law_law_905 : decode code 905 = .ok (.lshl, 1) := by decide +kernel
theorem d_Law_law_906 : decode code 906 = .ok (.aload_n 0, 1) := by decide +kernel
theorem d_Law_law_907 : decode code 907 = .ok (.iload_n 3, 1) := by decide +kernel
theorem d_Law_law_908 : decode code 908 = .ok (.iconst 2, 1) := by decide +kernel
theorem d_Law_law_909 : decode code 909 = .ok (.iadd, 1) := by decide +kernel
theorem d_Law_law_910 : decode code 910 = .ok (.iaload, 1) := by decide +kernel
theorem d_Law_law_911 : decode code 911 = .ok (.i2l, 1) := by decide +kernel
theorem d_Law_law_912 : decode code 912 = .ok (.ldc2_w 66, 3) := by decide +kernel
theorem d_Law_law_915 : decode code 915 = .ok (.land, 1) := by decide +kernel
theorem d_Law_law_916 : decode code 916 = .ok (.lor, 1) := by decide +kernel
theorem d_Law_law_917 : decode code 917 = .ok (.aload_n 0, 1) := by decide +kernel
theorem d_Law_law_918 : decode code 918 = .ok (.iload_n 3, 1) := by decide +kernel
theorem d_Law_law_919 : decode code 919 = .ok (.iconst 3, 1) := by decide +kernel
theorem d_Law_law_920 : decode code 920 = .ok (.iadd, 1) := by decide +kernel
theorem d_Law_law_921 : decode code 921 = .ok (.iaload, 1) := by decide +kernel
theorem d_Law_law_922 : decode code 922 = .ok (.i2l, 1) := by decide +kernel
theorem d_Law_law_923 : decode code 923 = .ok (.bipush 32, 2) := by decide +kernel
theorem d_Law_law_925 : decode code 925 = .ok (.lshl, 1) := by decide +kernel
theorem d_Law_law_926 : decode code 926 = .ok (.aload_n 0, 1) := by decide +kernel
theorem d_Law_law_927 : decode code 927 = .ok (.iload_n 3, 1) := by decide +kernel
theorem d_Law_law_928 : decode code 928 = .ok (.iconst 4, 1) := by decide +kernel
theorem d_Law_law_929 : decode code 929 = .ok (.iadd, 1) := by decide +kernel
theorem d_Law_law_930 : decode code 930 = .ok (.iaload, 1) := by decide +kernel
theorem d_Law_law_931 : decode code 931 = .ok (.i2l, 1) := by decide +kernel
theorem d_Law_law_932 : decode code 932 = .ok (.ldc2_w 66, 3) := by decide +kernel
theorem d_Law_law_935 : decode code 935 = .ok (.land, 1) := by decide +kernel
theorem d_Law_law_936 : decode code 936 = .ok (.lor, 1) := by decide +kernel
theorem d_Law_law_937 : decode code 937 = .ok (.invokevirtual 96, 3) := by decide +kernel
theorem d_Law_law_940 : decode code 940 = .ok (.lcmp, 1) := by decide +kernel
theorem d_Law_law_941 : decode code 941 = .ok (.ifCond .eq 730, 3) := by decide +kernel
theorem d_Law_law_944 : decode code 944 = .ok (.iconst 0, 1) := by decide +kernel
theorem d_Law_law_945 : decode code 945 = .ok (.ireturn, 1) := by decide +kernel
theorem d_Law_law_946 : decode code 946 = .ok (.aload_n 1, 1) := by decide +kernel
theorem d_Law_law_947 : decode code 947 = .ok (.aload_n 0, 1) := by decide +kernel
theorem d_Law_law_948 : decode code 948 = .ok (.iload_n 3, 1) := by decide +kernel
theorem d_Law_law_949 : decode code 949 = .ok (.iconst 1, 1) := by decide +kernel
theorem d_Law_law_950 : decode code 950 = .ok (.iadd, 1) := by decide +kernel
theorem d_Law_law_951 : decode code 951 = .ok (.iaload, 1) := by decide +kernel
theorem d_Law_law_952 : decode code 952 = .ok (.i2l, 1) := by decide +kernel
theorem d_Law_law_953 : decode code 953 = .ok (.bipush 32, 2) := by decide +kernel
theorem d_Law_law_955 : decode code 955 = .ok (.lshl, 1) := by decide +kernel
theorem d_Law_law_956 : decode code 956 = .ok (.aload_n 0, 1) := by decide +kernel
theorem d_Law_law_957 : decode code 957 = .ok (.iload_n 3, 1) := by decide +kernel
theorem d_Law_law_958 : decode code 958 = .ok (.iconst 2, 1) := by decide +kernel
theorem d_Law_law_959 : decode code 959 = .ok (.iadd, 1) := by decide +kernel
theorem d_Law_law_960 : decode code 960 = .ok (.iaload, 1) := by decide +kernel
theorem d_Law_law_961 : decode code 961 = .ok (.i2l, 1) := by decide +kernel
theorem d_Law_law_962 : decode code 962 = .ok (.ldc2_w 66, 3) := by decide +kernel
theorem d_Law_law_965 : decode code 965 = .ok (.land, 1) := by decide +kernel
theorem d_Law_law_966 : decode code 966 = .ok (.lor, 1) := by decide +kernel
theorem d_Law_law_967 : decode code 967 = .ok (.invokevirtual 97, 3) := by decide +kernel
theorem d_Law_law_970 : decode code 970 = .ok (.aload_n 2, 1) := by decide +kernel
theorem d_Law_law_971 : decode code 971 = .ok (.aload_n 0, 1) := by decide +kernel
theorem d_Law_law_972 : decode code 972 = .ok (.iload_n 3, 1) := by decide +kernel
theorem d_Law_law_973 : decode code 973 = .ok (.iconst 1, 1) := by decide +kernel
theorem d_Law_law_974 : decode code 974 = .ok (.iadd, 1) := by decide +kernel
theorem d_Law_law_975 : decode code 975 = .ok (.iaload, 1) := by decide +kernel
theorem d_Law_law_976 : decode code 976 = .ok (.i2l, 1) := by decide +kernel
theorem d_Law_law_977 : decode code 977 = .ok (.bipush 32, 2) := by decide +kernel
theorem d_Law_law_979 : decode code 979 = .ok (.lshl, 1) := by decide +kernel
theorem d_Law_law_980 : decode code 980 = .ok (.aload_n 0, 1) := by decide +kernel
theorem d_Law_law_981 : decode code 981 = .ok (.iload_n 3, 1) := by decide +kernel
theorem d_Law_law_982 : decode code 982 = .ok (.iconst 2, 1) := by decide +kernel
theorem d_Law_law_983 : decode code 983 = .ok (.iadd, 1) := by decide +kernel
theorem d_Law_law_984 : decode code 984 = .ok (.iaload, 1) := by decide +kernel
theorem d_Law_law_985 : decode code 985 = .ok (.i2l, 1) := by decide +kernel
theorem d_Law_law_986 : decode code 986 = .ok (.ldc2_w 66, 3) := by decide +kernel
theorem d_Law_law_989 : decode code 989 = .ok (.land, 1) := by decide +kernel
theorem d_Law_law_990 : decode code 990 = .ok (.lor, 1) := by decide +kernel
theorem d_Law_law_991 : decode code 991 = .ok (.invokevirtual 101, 3) := by decide +kernel
theorem d_Law_law_994 : decode code 994 = .ok (.lcmp, 1) := by decide +kernel
theorem d_Law_law_995 : decode code 995 = .ok (.ifCond .eq 676, 3) := by decide +kernel
theorem d_Law_law_998 : decode code 998 = .ok (.iconst 0, 1) := by decide +kernel
theorem d_Law_law_999 : decode code 999 = .ok (.ireturn, 1) := by decide +kernel
theorem d_Law_law_1000 : decode code 1000 = .ok (.aload_n 1, 1) := by decide +kernel
theorem d_Law_law_1001 : decode code 1001 = .ok (.aload_n 0, 1) := by decide +kernel
theorem d_Law_law_1002 : decode code 1002 = .ok (.iload_n 3, 1) := by decide +kernel
theorem d_Law_law_1003 : decode code 1003 = .ok (.iconst 1, 1) := by decide +kernel
theorem d_Law_law_1004 : decode code 1004 = .ok (.iadd, 1) := by decide +kernel
theorem d_Law_law_1005 : decode code 1005 = .ok (.iaload, 1) := by decide +kernel
theorem d_Law_law_1006 : decode code 1006 = .ok (.i2l, 1) := by decide +kernel
theorem d_Law_law_1007 : decode code 1007 = .ok (.bipush 32, 2) := by decide +kernel
theorem d_Law_law_1009 : decode code 1009 = .ok (.lshl, 1) := by decide +kernel
theorem d_Law_law_1010 : decode code 1010 = .ok (.aload_n 0, 1) := by decide +kernel
theorem d_Law_law_1011 : decode code 1011 = .ok (.iload_n 3, 1) := by decide +kernel
theorem d_Law_law_1012 : decode code 1012 = .ok (.iconst 2, 1) := by decide +kernel
theorem d_Law_law_1013 : decode code 1013 = .ok (.iadd, 1) := by decide +kernel
theorem d_Law_law_1014 : decode code 1014 = .ok (.iaload, 1) := by decide +kernel
theorem d_Law_law_1015 : decode code 1015 = .ok (.i2l, 1) := by decide +kernel
theorem d_Law_law_1016 : decode code 1016 = .ok (.ldc2_w 66, 3) := by decide +kernel
theorem d_Law_law_1019 : decode code 1019 = .ok (.land, 1) := by decide +kernel
theorem d_Law_law_1020 : decode code 1020 = .ok (.lor, 1) := by decide +kernel
theorem d_Law_law_1021 : decode code 1021 = .ok (.invokevirtual 102, 3) := by decide +kernel
theorem d_Law_law_1024 : decode code 1024 = .ok (.aload_n 2, 1) := by decide +kernel
theorem d_Law_law_1025 : decode code 1025 = .ok (.aload_n 0, 1) := by decide +kernel
theorem d_Law_law_1026 : decode code 1026 = .ok (.iload_n 3, 1) := by decide +kernel
theorem d_Law_law_1027 : decode code 1027 = .ok (.iconst 1, 1) := by decide +kernel
theorem d_Law_law_1028 : decode code 1028 = .ok (.iadd, 1) := by decide +kernel
theorem d_Law_law_1029 : decode code 1029 = .ok (.iaload, 1) := by decide +kernel
theorem d_Law_law_1030 : decode code 1030 = .ok (.i2l, 1) := by decide +kernel
theorem d_Law_law_1031 : decode code 1031 = .ok (.bipush 32, 2) := by decide +kernel
theorem d_Law_law_1033 : decode code 1033 = .ok (.lshl, 1) := by decide +kernel
theorem d_Law_law_1034 : decode code 1034 = .ok (.aload_n 0, 1) := by decide +kernel
theorem d_Law_law_1035 : decode code 1035 = .ok (.iload_n 3, 1) := by decide +kernel
theorem d_Law_law_1036 : decode code 1036 = .ok (.iconst 2, 1) := by decide +kernel
theorem d_Law_law_1037 : decode code 1037 = .ok (.iadd, 1) := by decide +kernel
theorem d_Law_law_1038 : decode code 1038 = .ok (.iaload, 1) := by decide +kernel
theorem d_Law_law_1039 : decode code 1039 = .ok (.i2l, 1) := by decide +kernel
theorem d_Law_law_1040 : decode code 1040 = .ok (.ldc2_w 66, 3) := by decide +kernel
theorem d_Law_law_1043 : decode code 1043 = .ok (.land, 1) := by decide +kernel
theorem d_Law_law_1044 : decode code 1044 = .ok (.lor, 1) := by decide +kernel
theorem d_Law_law_1045 : decode code 1045 = .ok (.invokevirtual 105, 3) := by decide +kernel
theorem d_Law_law_1048 : decode code 1048 = .ok (.if_icmp .eq 623, 3) := by decide +kernel
theorem d_Law_law_1051 : decode code 1051 = .ok (.iconst 0, 1) := by decide +kernel
theorem d_Law_law_1052 : decode code 1052 = .ok (.ireturn, 1) := by decide +kernel
theorem d_Law_law_1053 : decode code 1053 = .ok (.aload_n 1, 1) := by decide +kernel
theorem d_Law_law_1054 : decode code 1054 = .ok (.aload_n 0, 1) := by decide +kernel
theorem d_Law_law_1055 : decode code 1055 = .ok (.iload_n 3, 1) := by decide +kernel
theorem d_Law_law_1056 : decode code 1056 = .ok (.iconst 1, 1) := by decide +kernel
theorem d_Law_law_1057 : decode code 1057 = .ok (.iadd, 1) := by decide +kernel
theorem d_Law_law_1058 : decode code 1058 = .ok (.iaload, 1) := by decide +kernel
theorem d_Law_law_1059 : decode code 1059 = .ok (.aload_n 0, 1) := by decide +kernel
theorem d_Law_law_1060 : decode code 1060 = .ok (.iload_n 3, 1) := by decide +kernel
theorem d_Law_law_1061 : decode code 1061 = .ok (.iconst 2, 1) := by decide +kernel
theorem d_Law_law_1062 : decode code 1062 = .ok (.iadd, 1) := by decide +kernel
theorem d_Law_law_1063 : decode code 1063 = .ok (.iaload, 1) := by decide +kernel
theorem d_Law_law_1064 : decode code 1064 = .ok (.invokevirtual 106, 3) := by decide +kernel
theorem d_Law_law_1067 : decode code 1067 = .ok (.aload_n 2, 1) := by decide +kernel
theorem d_Law_law_1068 : decode code 1068 = .ok (.aload_n 0, 1) := by decide +kernel
theorem d_Law_law_1069 : decode code 1069 = .ok (.iload_n 3, 1) := by decide +kernel
theorem d_Law_law_1070 : decode code 1070 = .ok (.iconst 1, 1) := by decide +kernel
theorem d_Law_law_1071 : decode code 1071 = .ok (.iadd, 1) := by decide +kernel
theorem d_Law_law_1072 : decode code 1072 = .ok (.iaload, 1) := by decide +kernel
theorem d_Law_law_1073 : decode code 1073 = .ok (.aload_n 0, 1) := by decide +kernel
theorem d_Law_law_1074 : decode code 1074 = .ok (.iload_n 3, 1) := by decide +kernel
theorem d_Law_law_1075 : decode code 1075 = .ok (.iconst 2, 1) := by decide +kernel
theorem d_Law_law_1076 : decode code 1076 = .ok (.iadd, 1) := by decide +kernel
theorem d_Law_law_1077 : decode code 1077 = .ok (.iaload, 1) := by decide +kernel
theorem d_Law_law_1078 : decode code 1078 = .ok (.invokevirtual 109, 3) := by decide +kernel
theorem d_Law_law_1081 : decode code 1081 = .ok (.if_icmp .eq 590, 3) := by decide +kernel
theorem d_Law_law_1084 : decode code 1084 = .ok (.iconst 0, 1) := by decide +kernel
theorem d_Law_law_1085 : decode code 1085 = .ok (.ireturn, 1) := by decide +kernel
theorem d_Law_law_1086 : decode code 1086 = .ok (.aload_n 1, 1) := by decide +kernel
theorem d_Law_law_1087 : decode code 1087 = .ok (.invokevirtual 110, 3) := by decide +kernel
theorem d_Law_law_1090 : decode code 1090 = .ok (.aload_n 2, 1) := by decide +kernel
theorem d_Law_law_1091 : decode code 1091 = .ok (.invokevirtual 114, 3) := by decide +kernel
theorem d_Law_law_1094 : decode code 1094 = .ok (.if_icmp .eq 577, 3) := by decide +kernel
theorem d_Law_law_1097 : decode code 1097 = .ok (.iconst 0, 1) := by decide +kernel
theorem d_Law_law_1098 : decode code 1098 = .ok (.ireturn, 1) := by decide +kernel
theorem d_Law_law_1099 : decode code 1099 = .ok (.aload_n 1, 1) := by decide +kernel
theorem d_Law_law_1100 : decode code 1100 = .ok (.invokevirtual 115, 3) := by decide +kernel
theorem d_Law_law_1103 : decode code 1103 = .ok (.aload_n 2, 1) := by decide +kernel
theorem d_Law_law_1104 : decode code 1104 = .ok (.invokevirtual 118, 3) := by decide +kernel
theorem d_Law_law_1107 : decode code 1107 = .ok (.if_icmp .eq 564, 3) := by decide +kernel
theorem d_Law_law_1110 : decode code 1110 = .ok (.iconst 0, 1) := by decide +kernel
theorem d_Law_law_1111 : decode code 1111 = .ok (.ireturn, 1) := by decide +kernel
theorem d_Law_law_1112 : decode code 1112 = .ok (.aload_n 1, 1) := by decide +kernel
theorem d_Law_law_1113 : decode code 1113 = .ok (.aload_n 0, 1) := by decide +kernel
theorem d_Law_law_1114 : decode code 1114 = .ok (.iload_n 3, 1) := by decide +kernel
theorem d_Law_law_1115 : decode code 1115 = .ok (.iconst 1, 1) := by decide +kernel
theorem d_Law_law_1116 : decode code 1116 = .ok (.iadd, 1) := by decide +kernel
theorem d_Law_law_1117 : decode code 1117 = .ok (.iaload, 1) := by decide +kernel
theorem d_Law_law_1118 : decode code 1118 = .ok (.invokevirtual 119, 3) := by decide +kernel
theorem d_Law_law_1121 : decode code 1121 = .ok (.aload_n 2, 1) := by decide +kernel
theorem d_Law_law_1122 : decode code 1122 = .ok (.aload_n 0, 1) := by decide +kernel
theorem d_Law_law_1123 : decode code 1123 = .ok (.iload_n 3, 1) := by decide +kernel
theorem d_Law_law_1124 : decode code 1124 = .ok (.iconst 1, 1) := by decide +kernel
theorem d_Law_law_1125 : decode code 1125 = .ok (.iadd, 1) := by decide +kernel
theorem d_Law_law_1126 : decode code 1126 = .ok (.iaload, 1) := by decide +kernel
theorem d_Law_law_1127 : decode code 1127 = .ok (.invokevirtual 122, 3) := by decide +kernel
theorem d_Law_law_1130 : decode code 1130 = .ok (.if_icmp .eq 541, 3) := by decide +kernel
theorem d_Law_law_1133 : decode code 1133 = .ok (.iconst 0, 1) := by decide +kernel
theorem d_Law_law_1134 : decode code 1134 = .ok (.ireturn, 1) := by decide +kernel
theorem d_Law_law_1135 : decode code 1135 = .ok (.aload_n 1, 1) := by decide +kernel
theorem d_Law_law_1136 : decode code 1136 = .ok (.aload_n 0, 1) := by decide +kernel
theorem d_Law_law_1137 : decode code 1137 = .ok (.iload_n 3, 1) := by decide +kernel
theorem d_Law_law_1138 : decode code 1138 = .ok (.iconst 1, 1) := by decide +kernel
theorem d_Law_law_1139 : decode code 1139 = .ok (.iadd, 1) := by decide +kernel
theorem d_Law_law_1140 : decode code 1140 = .ok (.iaload, 1) := by decide +kernel
theorem d_Law_law_1141 : decode code 1141 = .ok (.invokevirtual 123, 3) := by decide +kernel
theorem d_Law_law_1144 : decode code 1144 = .ok (.aload_n 2, 1) := by decide +kernel
theorem d_Law_law_1145 : decode code 1145 = .ok (.aload_n 0, 1) := by decide +kernel
theorem d_Law_law_1146 : decode code 1146 = .ok (.iload_n 3, 1) := by decide +kernel
theorem d_Law_law_1147 : decode code 1147 = .ok (.iconst 1, 1) := by decide +kernel
theorem d_Law_law_1148 : decode code 1148 = .ok (.iadd, 1) := by decide +kernel
theorem d_Law_law_1149 : decode code 1149 = .ok (.iaload, 1) := by decide +kernel
theorem d_Law_law_1150 : decode code 1150 = .ok (.invokevirtual 126, 3) := by decide +kernel
theorem d_Law_law_1153 : decode code 1153 = .ok (.lcmp, 1) := by decide +kernel
theorem d_Law_law_1154 : decode code 1154 = .ok (.ifCond .eq 517, 3) := by decide +kernel
theorem d_Law_law_1157 : decode code 1157 = .ok (.iconst 0, 1) := by decide +kernel
theorem d_Law_law_1158 : decode code 1158 = .ok (.ireturn, 1) := by decide +kernel
theorem d_Law_law_1159 : decode code 1159 = .ok (.aload_n 1, 1) := by decide +kernel
theorem d_Law_law_1160 : decode code 1160 = .ok (.invokevirtual 127, 3) := by decide +kernel
theorem d_Law_law_1163 : decode code 1163 = .ok (.aload_n 2, 1) := by decide +kernel
theorem d_Law_law_1164 : decode code 1164 = .ok (.invokevirtual 130, 3) := by decide +kernel
theorem d_Law_law_1167 : decode code 1167 = .ok (.if_icmp .eq 504, 3) := by decide +kernel
theorem d_Law_law_1170 : decode code 1170 = .ok (.iconst 0, 1) := by decide +kernel
theorem d_Law_law_1171 : decode code 1171 = .ok (.ireturn, 1) := by decide +kernel
theorem d_Law_law_1172 : decode code 1172 = .ok (.aload_n 1, 1) := by decide +kernel
theorem d_Law_law_1173 : decode code 1173 = .ok (.invokevirtual 131, 3) := by decide +kernel
theorem d_Law_law_1176 : decode code 1176 = .ok (.aload_n 2, 1) := by decide +kernel
theorem d_Law_law_1177 : decode code 1177 = .ok (.invokevirtual 134, 3) := by decide +kernel
theorem d_Law_law_1180 : decode code 1180 = .ok (.if_icmp .eq 491, 3) := by decide +kernel
theorem d_Law_law_1183 : decode code 1183 = .ok (.iconst 0, 1) := by decide +kernel
theorem d_Law_law_1184 : decode code 1184 = .ok (.ireturn, 1) := by decide +kernel
theorem d_Law_law_1185 : decode code 1185 = .ok (.aload_n 1, 1) := by decide +kernel
theorem d_Law_law_1186 : decode code 1186 = .ok (.invokevirtual 135, 3) := by decide +kernel
theorem d_Law_law_1189 : decode code 1189 = .ok (.aload_n 2, 1) := by decide +kernel
theorem d_Law_law_1190 : decode code 1190 = .ok (.invokevirtual 138, 3) := by decide +kernel
theorem d_Law_law_1193 : decode code 1193 = .ok (.if_icmp .eq 478, 3) := by decide +kernel
theorem d_Law_law_1196 : decode code 1196 = .ok (.iconst 0, 1) := by decide +kernel
theorem d_Law_law_1197 : decode code 1197 = .ok (.ireturn, 1) := by decide +kernel
theorem d_Law_law_1198 : decode code 1198 = .ok (.aload_n 1, 1) := by decide +kernel
theorem d_Law_law_1199 : decode code 1199 = .ok (.aload_n 0, 1) := by decide +kernel
theorem d_Law_law_1200 : decode code 1200 = .ok (.iload_n 3, 1) := by decide +kernel
theorem d_Law_law_1201 : decode code 1201 = .ok (.iconst 1, 1) := by decide +kernel
theorem d_Law_law_1202 : decode code 1202 = .ok (.iadd, 1) := by decide +kernel
theorem d_Law_law_1203 : decode code 1203 = .ok (.iaload, 1) := by decide +kernel
theorem d_Law_law_1204 : decode code 1204 = .ok (.invokevirtual 139, 3) := by decide +kernel
theorem d_Law_law_1207 : decode code 1207 = .ok (.aload_n 2, 1) := by decide +kernel
theorem d_Law_law_1208 : decode code 1208 = .ok (.aload_n 0, 1) := by decide +kernel
theorem d_Law_law_1209 : decode code 1209 = .ok (.iload_n 3, 1) := by decide +kernel
theorem d_Law_law_1210 : decode code 1210 = .ok (.iconst 1, 1) := by decide +kernel
theorem d_Law_law_1211 : decode code 1211 = .ok (.iadd, 1) := by decide +kernel
theorem d_Law_law_1212 : decode code 1212 = .ok (.iaload, 1) := by decide +kernel
theorem d_Law_law_1213 : decode code 1213 = .ok (.invokevirtual 142, 3) := by decide +kernel
theorem d_Law_law_1216 : decode code 1216 = .ok (.if_icmp .eq 455, 3) := by decide +kernel
theorem d_Law_law_1219 : decode code 1219 = .ok (.iconst 0, 1) := by decide +kernel
theorem d_Law_law_1220 : decode code 1220 = .ok (.ireturn, 1) := by decide +kernel
theorem d_Law_law_1221 : decode code 1221 = .ok (.aload_n 1, 1) := by decide +kernel
theorem d_Law_law_1222 : decode code 1222 = .ok (.aload_n 0, 1) := by decide +kernel
theorem d_Law_law_1223 : decode code 1223 = .ok (.iload_n 3, 1) := by decide +kernel
theorem d_Law_law_1224 : decode code 1224 = .ok (.iconst 1, 1) := by decide +kernel
theorem d_Law_law_1225 : decode code 1225 = .ok (.iadd, 1) := by decide +kernel
theorem d_Law_law_1226 : decode code 1226 = .ok (.iaload, 1) := by decide +kernel
theorem d_Law_law_1227 : decode code 1227 = .ok (.aload_n 0, 1) := by decide +kernel
theorem d_Law_law_1228 : decode code 1228 = .ok (.iload_n 3, 1) := by decide +kernel
theorem d_Law_law_1229 : decode code 1229 = .ok (.iconst 2, 1) := by decide +kernel
theorem d_Law_law_1230 : decode code 1230 = .ok (.iadd, 1) := by decide +kernel
theorem d_Law_law_1231 : decode code 1231 = .ok (.iaload, 1) := by decide +kernel
theorem d_Law_law_1232 : decode code 1232 = .ok (.invokevirtual 143, 3) := by decide +kernel
theorem d_Law_law_1235 : decode code 1235 = .ok (.aload_n 2, 1) := by decide +kernel
theorem d_Law_law_1236 : decode code 1236 = .ok (.aload_n 0, 1) := by decide +kernel
theorem d_Law_law_1237 : decode code 1237 = .ok (.iload_n 3, 1) := by decide +kernel
theorem d_Law_law_1238 : decode code 1238 = .ok (.iconst 1, 1) := by decide +kernel
theorem d_Law_law_1239 : decode code 1239 = .ok (.iadd, 1) := by decide +kernel
theorem d_Law_law_1240 : decode code 1240 = .ok (.iaload, 1) := by decide +kernel
theorem d_Law_law_1241 : decode code 1241 = .ok (.aload_n 0, 1) := by decide +kernel
theorem d_Law_law_1242 : decode code 1242 = .ok (.iload_n 3, 1) := by decide +kernel
theorem d_Law_law_1243 : decode code 1243 = .ok (.iconst 2, 1) := by decide +kernel
theorem d_Law_law_1244 : decode code 1244 = .ok (.iadd, 1) := by decide +kernel
theorem d_Law_law_1245 : decode code 1245 = .ok (.iaload, 1) := by decide +kernel
theorem d_Law_law_1246 : decode code 1246 = .ok (.invokevirtual 146, 3) := by decide +kernel
theorem d_Law_law_1249 : decode code 1249 = .ok (.if_icmp .eq 422, 3) := by decide +kernel
theorem d_Law_law_1252 : decode code 1252 = .ok (.iconst 0, 1) := by decide +kernel
theorem d_Law_law_1253 : decode code 1253 = .ok (.ireturn, 1) := by decide +kernel
theorem d_Law_law_1254 : decode code 1254 = .ok (.aload_n 1, 1) := by decide +kernel
theorem d_Law_law_1255 : decode code 1255 = .ok (.invokevirtual 147, 3) := by decide +kernel
theorem d_Law_law_1258 : decode code 1258 = .ok (.aload_n 2, 1) := by decide +kernel
theorem d_Law_law_1259 : decode code 1259 = .ok (.invokevirtual 151, 3) := by decide +kernel
theorem d_Law_law_1262 : decode code 1262 = .ok (.if_icmp .eq 409, 3) := by decide +kernel
theorem d_Law_law_1265 : decode code 1265 = .ok (.iconst 0, 1) := by decide +kernel
theorem d_Law_law_1266 : decode code 1266 = .ok (.ireturn, 1) := by decide +kernel
theorem d_Law_law_1267 : decode code 1267 = .ok (.aload_n 1, 1) := by decide +kernel
theorem d_Law_law_1268 : decode code 1268 = .ok (.aload_n 0, 1) := by decide +kernel
theorem d_Law_law_1269 : decode code 1269 = .ok (.iload_n 3, 1) := by decide +kernel
theorem d_Law_law_1270 : decode code 1270 = .ok (.iconst 1, 1) := by decide +kernel
theorem d_Law_law_1271 : decode code 1271 = .ok (.iadd, 1) := by decide +kernel
theorem d_Law_law_1272 : decode code 1272 = .ok (.iaload, 1) := by decide +kernel
theorem d_Law_law_1273 : decode code 1273 = .ok (.aload_n 0, 1) := by decide +kernel
theorem d_Law_law_1274 : decode code 1274 = .ok (.iload_n 3, 1) := by decide +kernel
theorem d_Law_law_1275 : decode code 1275 = .ok (.iconst 2, 1) := by decide +kernel
theorem d_Law_law_1276 : decode code 1276 = .ok (.iadd, 1) := by decide +kernel
theorem d_Law_law_1277 : decode code 1277 = .ok (.iaload, 1) := by decide +kernel
theorem d_Law_law_1278 : decode code 1278 = .ok (.ifCond .eq 7, 3) := by decide +kernel
theorem d_Law_law_1281 : decode code 1281 = .ok (.iconst 1, 1) := by decide +kernel
theorem d_Law_law_1282 : decode code 1282 = .ok (.goto 4, 3) := by decide +kernel
theorem d_Law_law_1285 : decode code 1285 = .ok (.iconst 0, 1) := by decide +kernel
theorem d_Law_law_1286 : decode code 1286 = .ok (.invokevirtual 152, 3) := by decide +kernel
theorem d_Law_law_1289 : decode code 1289 = .ok (.aload_n 2, 1) := by decide +kernel
theorem d_Law_law_1290 : decode code 1290 = .ok (.aload_n 0, 1) := by decide +kernel
theorem d_Law_law_1291 : decode code 1291 = .ok (.iload_n 3, 1) := by decide +kernel
theorem d_Law_law_1292 : decode code 1292 = .ok (.iconst 1, 1) := by decide +kernel
theorem d_Law_law_1293 : decode code 1293 = .ok (.iadd, 1) := by decide +kernel
theorem d_Law_law_1294 : decode code 1294 = .ok (.iaload, 1) := by decide +kernel
theorem d_Law_law_1295 : decode code 1295 = .ok (.aload_n 0, 1) := by decide +kernel
theorem d_Law_law_1296 : decode code 1296 = .ok (.iload_n 3, 1) := by decide +kernel
theorem d_Law_law_1297 : decode code 1297 = .ok (.iconst 2, 1) := by decide +kernel
theorem d_Law_law_1298 : decode code 1298 = .ok (.iadd, 1) := by decide +kernel
theorem d_Law_law_1299 : decode code 1299 = .ok (.iaload, 1) := by decide +kernel
theorem d_Law_law_1300 : decode code 1300 = .ok (.ifCond .eq 7, 3) := by decide +kernel
theorem d_Law_law_1303 : decode code 1303 = .ok (.iconst 1, 1) := by decide +kernel
theorem d_Law_law_1304 : decode code 1304 = .ok (.goto 4, 3) := by decide +kernel
theorem d_Law_law_1307 : decode code 1307 = .ok (.iconst 0, 1) := by decide +kernel
theorem d_Law_law_1308 : decode code 1308 = .ok (.invokevirtual 156, 3) := by decide +kernel
theorem d_Law_law_1311 : decode code 1311 = .ok (.if_icmp .eq 360, 3) := by decide +kernel
theorem d_Law_law_1314 : decode code 1314 = .ok (.iconst 0, 1) := by decide +kernel
theorem d_Law_law_1315 : decode code 1315 = .ok (.ireturn, 1) := by decide +kernel
theorem d_Law_law_1316 : decode code 1316 = .ok (.aload_n 1, 1) := by decide +kernel
theorem d_Law_law_1317 : decode code 1317 = .ok (.aload_n 0, 1) := by decide +kernel
theorem d_Law_law_1318 : decode code 1318 = .ok (.iload_n 3, 1) := by decide +kernel
theorem d_Law_law_1319 : decode code 1319 = .ok (.iconst 1, 1) := by decide +kernel
theorem d_Law_law_1320 : decode code 1320 = .ok (.iadd, 1) := by decide +kernel
theorem d_Law_law_1321 : decode code 1321 = .ok (.iaload, 1) := by decide +kernel
theorem d_Law_law_1322 : decode code 1322 = .ok (.invokevirtual 157, 3) := by decide +kernel
theorem d_Law_law_1325 : decode code 1325 = .ok (.aload_n 2, 1) := by decide +kernel
theorem d_Law_law_1326 : decode code 1326 = .ok (.aload_n 0, 1) := by decide +kernel
theorem d_Law_law_1327 : decode code 1327 = .ok (.iload_n 3, 1) := by decide +kernel
theorem d_Law_law_1328 : decode code 1328 = .ok (.iconst 1, 1) := by decide +kernel
theorem d_Law_law_1329 : decode code 1329 = .ok (.iadd, 1) := by decide +kernel
theorem d_Law_law_1330 : decode code 1330 = .ok (.iaload, 1) := by decide +kernel
theorem d_Law_law_1331 : decode code 1331 = .ok (.invokevirtual 160, 3) := by decide +kernel
theorem d_Law_law_1334 : decode code 1334 = .ok (.lcmp, 1) := by decide +kernel
theorem d_Law_law_1335 : decode code 1335 = .ok (.ifCond .eq 336, 3) := by decide +kernel
theorem d_Law_law_1338 : decode code 1338 = .ok (.iconst 0, 1) := by decide +kernel
theorem d_Law_law_1339 : decode code 1339 = .ok (.ireturn, 1) := by decide +kernel
theorem d_Law_law_1340 : decode code 1340 = .ok (.aload_n 1, 1) := by decide +kernel
theorem d_Law_law_1341 : decode code 1341 = .ok (.aload_n 0, 1) := by decide +kernel
theorem d_Law_law_1342 : decode code 1342 = .ok (.iload_n 3, 1) := by decide +kernel
theorem d_Law_law_1343 : decode code 1343 = .ok (.iconst 1, 1) := by decide +kernel
theorem d_Law_law_1344 : decode code 1344 = .ok (.iadd, 1) := by decide +kernel
theorem d_Law_law_1345 : decode code 1345 = .ok (.iaload, 1) := by decide +kernel
theorem d_Law_law_1346 : decode code 1346 = .ok (.i2l, 1) := by decide +kernel
theorem d_Law_law_1347 : decode code 1347 = .ok (.bipush 32, 2) := by decide +kernel
theorem d_Law_law_1349 : decode code 1349 = .ok (.lshl, 1) := by decide +kernel
theorem d_Law_law_1350 : decode code 1350 = .ok (.aload_n 0, 1) := by decide +kernel
theorem d_Law_law_1351 : decode code 1351 = .ok (.iload_n 3, 1) := by decide +kernel
theorem d_Law_law_1352 : decode code 1352 = .ok (.iconst 2, 1) := by decide +kernel
theorem d_Law_law_1353 : decode code 1353 = .ok (.iadd, 1) := by decide +kernel
theorem d_Law_law_1354 : decode code 1354 = .ok (.iaload, 1) := by decide +kernel
theorem d_Law_law_1355 : decode code 1355 = .ok (.i2l, 1) := by decide +kernel
theorem d_Law_law_1356 : decode code 1356 = .ok (.ldc2_w 66, 3) := by decide +kernel
theorem d_Law_law_1359 : decode code 1359 = .ok (.land, 1) := by decide +kernel
theorem d_Law_law_1360 : decode code 1360 = .ok (.lor, 1) := by decide +kernel
theorem d_Law_law_1361 : decode code 1361 = .ok (.aload_n 0, 1) := by decide +kernel
theorem d_Law_law_1362 : decode code 1362 = .ok (.iload_n 3, 1) := by decide +kernel
theorem d_Law_law_1363 : decode code 1363 = .ok (.iconst 3, 1) := by decide +kernel
theorem d_Law_law_1364 : decode code 1364 = .ok (.iadd, 1) := by decide +kernel
theorem d_Law_law_1365 : decode code 1365 = .ok (.iaload, 1) := by decide +kernel
theorem d_Law_law_1366 : decode code 1366 = .ok (.i2l, 1) := by decide +kernel
theorem d_Law_law_1367 : decode code 1367 = .ok (.bipush 32, 2) := by decide +kernel
theorem d_Law_law_1369 : decode code 1369 = .ok (.lshl, 1) := by decide +kernel
theorem d_Law_law_1370 : decode code 1370 = .ok (.aload_n 0, 1) := by decide +kernel
theorem d_Law_law_1371 : decode code 1371 = .ok (.iload_n 3, 1) := by decide +kernel
theorem d_Law_law_1372 : decode code 1372 = .ok (.iconst 4, 1) := by decide +kernel
theorem d_Law_law_1373 : decode code 1373 = .ok (.iadd, 1) := by decide +kernel
theorem d_Law_law_1374 : decode code 1374 = .ok (.iaload, 1) := by decide +kernel
theorem d_Law_law_1375 : decode code 1375 = .ok (.i2l, 1) := by decide +kernel
theorem d_Law_law_1376 : decode code 1376 = .ok (.ldc2_w 66, 3) := by decide +kernel
theorem d_Law_law_1379 : decode code 1379 = .ok (.land, 1) := by decide +kernel
theorem d_Law_law_1380 : decode code 1380 = .ok (.lor, 1) := by decide +kernel
theorem d_Law_law_1381 : decode code 1381 = .ok (.invokevirtual 161, 3) := by decide +kernel
theorem d_Law_law_1384 : decode code 1384 = .ok (.aload_n 2, 1) := by decide +kernel
theorem d_Law_law_1385 : decode code 1385 = .ok (.aload_n 0, 1) := by decide +kernel
theorem d_Law_law_1386 : decode code 1386 = .ok (.iload_n 3, 1) := by decide +kernel
theorem d_Law_law_1387 : decode code 1387 = .ok (.iconst 1, 1) := by decide +kernel
theorem d_Law_law_1388 : decode code 1388 = .ok (.iadd, 1) := by decide +kernel
theorem d_Law_law_1389 : decode code 1389 = .ok (.iaload, 1) := by decide +kernel
theorem d_Law_law_1390 : decode code 1390 = .ok (.i2l, 1) := by decide +kernel
theorem d_Law_law_1391 : decode code 1391 = .ok (.bipush 32, 2) := by decide +kernel
theorem d_Law_law_1393 : decode code 1393 = .ok (.lshl, 1) := by decide +kernel
theorem d_Law_law_1394 : decode code 1394 = .ok (.aload_n 0, 1) := by decide +kernel
theorem d_Law_law_1395 : decode code 1395 = .ok (.iload_n 3, 1) := by decide +kernel
theorem d_Law_law_1396 : decode code 1396 = .ok (.iconst 2, 1) := by decide +kernel
theorem d_Law_law_1397 : decode code 1397 = .ok (.iadd, 1) := by decide +kernel
theorem d_Law_law_1398 : decode code 1398 = .ok (.iaload, 1) := by decide +kernel
theorem d_Law_law_1399 : decode code 1399 = .ok (.i2l, 1) := by decide +kernel
theorem d_Law_law_1400 : decode code 1400 = .ok (.ldc2_w 66, 3) := by decide +kernel
theorem d_Law_law_1403 : decode code 1403 = .ok (.land, 1) := by decide +kernel
theorem d_Law_law_1404 : decode code 1404 = .ok (.lor, 1) := by decide +kernel
theorem d_Law_law_1405 : decode code 1405 = .ok (.aload_n 0, 1) := by decide +kernel
theorem d_Law_law_1406 : decode code 1406 = .ok (.iload_n 3, 1) := by decide +kernel
theorem d_Law_law_1407 : decode code 1407 = .ok (.iconst 3, 1) := by decide +kernel
theorem d_Law_law_1408 : decode code 1408 = .ok (.iadd, 1) := by decide +kernel
theorem d_Law_law_1409 : decode code 1409 = .ok (.iaload, 1) := by decide +kernel
theorem d_Law_law_1410 : decode code 1410 = .ok (.i2l, 1) := by decide +kernel
theorem d_Law_law_1411 : decode code 1411 = .ok (.bipush 32, 2) := by decide +kernel
theorem d_Law_law_1413 : decode code 1413 = .ok (.lshl, 1) := by decide +kernel
theorem d_Law_law_1414 : decode code 1414 = .ok (.aload_n 0, 1) := by decide +kernel
theorem d_Law_law_1415 : decode code 1415 = .ok (.iload_n 3, 1) := by decide +kernel
theorem d_Law_law_1416 : decode code 1416 = .ok (.iconst 4, 1) := by decide +kernel
theorem d_Law_law_1417 : decode code 1417 = .ok (.iadd, 1) := by decide +kernel
theorem d_Law_law_1418 : decode code 1418 = .ok (.iaload, 1) := by decide +kernel
theorem d_Law_law_1419 : decode code 1419 = .ok (.i2l, 1) := by decide +kernel
theorem d_Law_law_1420 : decode code 1420 = .ok (.ldc2_w 66, 3) := by decide +kernel
theorem d_Law_law_1423 : decode code 1423 = .ok (.land, 1) := by decide +kernel
theorem d_Law_law_1424 : decode code 1424 = .ok (.lor, 1) := by decide +kernel
theorem d_Law_law_1425 : decode code 1425 = .ok (.invokevirtual 165, 3) := by decide +kernel
theorem d_Law_law_1428 : decode code 1428 = .ok (.if_icmp .eq 243, 3) := by decide +kernel
theorem d_Law_law_1431 : decode code 1431 = .ok (.iconst 0, 1) := by decide +kernel
theorem d_Law_law_1432 : decode code 1432 = .ok (.ireturn, 1) := by decide +kernel
theorem d_Law_law_1433 : decode code 1433 = .ok (.aload_n 1, 1) := by decide +kernel
theorem d_Law_law_1434 : decode code 1434 = .ok (.aload_n 0, 1) := by decide +kernel
theorem d_Law_law_1435 : decode code 1435 = .ok (.iload_n 3, 1) := by decide +kernel
theorem d_Law_law_1436 : decode code 1436 = .ok (.iconst 1, 1) := by decide +kernel
theorem d_Law_law_1437 : decode code 1437 = .ok (.iadd, 1) := by decide +kernel
theorem d_Law_law_1438 : decode code 1438 = .ok (.iaload, 1) := by decide +kernel
theorem d_Law_law_1439 : decode code 1439 = .ok (.i2l, 1) := by decide +kernel
theorem d_Law_law_1440 : decode code 1440 = .ok (.bipush 32, 2) := by decide +kernel
theorem d_Law_law_1442 : decode code 1442 = .ok (.lshl, 1) := by decide +kernel
theorem d_Law_law_1443 : decode code 1443 = .ok (.aload_n 0, 1) := by decide +kernel
theorem d_Law_law_1444 : decode code 1444 = .ok (.iload_n 3, 1) := by decide +kernel
theorem d_Law_law_1445 : decode code 1445 = .ok (.iconst 2, 1) := by decide +kernel
theorem d_Law_law_1446 : decode code 1446 = .ok (.iadd, 1) := by decide +kernel
theorem d_Law_law_1447 : decode code 1447 = .ok (.iaload, 1) := by decide +kernel
theorem d_Law_law_1448 : decode code 1448 = .ok (.i2l, 1) := by decide +kernel
theorem d_Law_law_1449 : decode code 1449 = .ok (.ldc2_w 66, 3) := by decide +kernel
theorem d_Law_law_1452 : decode code 1452 = .ok (.land, 1) := by decide +kernel
theorem d_Law_law_1453 : decode code 1453 = .ok (.lor, 1) := by decide +kernel
theorem d_Law_law_1454 : decode code 1454 = .ok (.invokevirtual 166, 3) := by decide +kernel
theorem d_Law_law_1457 : decode code 1457 = .ok (.aload_n 2, 1) := by decide +kernel
theorem d_Law_law_1458 : decode code 1458 = .ok (.aload_n 0, 1) := by decide +kernel
theorem d_Law_law_1459 : decode code 1459 = .ok (.iload_n 3, 1) := by decide +kernel
theorem d_Law_law_1460 : decode code 1460 = .ok (.iconst 1, 1) := by decide +kernel
theorem d_Law_law_1461 : decode code 1461 = .ok (.iadd, 1) := by decide +kernel
theorem d_Law_law_1462 : decode code 1462 = .ok (.iaload, 1) := by decide +kernel
theorem d_Law_law_1463 : decode code 1463 = .ok (.i2l, 1) := by decide +kernel
theorem d_Law_law_1464 : decode code 1464 = .ok (.bipush 32, 2) := by decide +kernel
theorem d_Law_law_1466 : decode code 1466 = .ok (.lshl, 1) := by decide +kernel
theorem d_Law_law_1467 : decode code 1467 = .ok (.aload_n 0, 1) := by decide +kernel
theorem d_Law_law_1468 : decode code 1468 = .ok (.iload_n 3, 1) := by decide +kernel
theorem d_Law_law_1469 : decode code 1469 = .ok (.iconst 2, 1) := by decide +kernel
theorem d_Law_law_1470 : decode code 1470 = .ok (.iadd, 1) := by decide +kernel
theorem d_Law_law_1471 : decode code 1471 = .ok (.iaload, 1) := by decide +kernel
theorem d_Law_law_1472 : decode code 1472 = .ok (.i2l, 1) := by decide +kernel
theorem d_Law_law_1473 : decode code 1473 = .ok (.ldc2_w 66, 3) := by decide +kernel
theorem d_Law_law_1476 : decode code 1476 = .ok (.land, 1) := by decide +kernel
theorem d_Law_law_1477 : decode code 1477 = .ok (.lor, 1) := by decide +kernel
theorem d_Law_law_1478 : decode code 1478 = .ok (.invokevirtual 169, 3) := by decide +kernel
theorem d_Law_law_1481 : decode code 1481 = .ok (.if_icmp .eq 190, 3) := by decide +kernel
theorem d_Law_law_1484 : decode code 1484 = .ok (.iconst 0, 1) := by decide +kernel
theorem d_Law_law_1485 : decode code 1485 = .ok (.ireturn, 1) := by decide +kernel
theorem d_Law_law_1486 : decode code 1486 = .ok (.aload_n 1, 1) := by decide +kernel
theorem d_Law_law_1487 : decode code 1487 = .ok (.aload_n 0, 1) := by decide +kernel
theorem d_Law_law_1488 : decode code 1488 = .ok (.iload_n 3, 1) := by decide +kernel
theorem d_Law_law_1489 : decode code 1489 = .ok (.iconst 1, 1) := by decide +kernel
theorem d_Law_law_1490 : decode code 1490 = .ok (.iadd, 1) := by decide +kernel
theorem d_Law_law_1491 : decode code 1491 = .ok (.iaload, 1) := by decide +kernel
theorem d_Law_law_1492 : decode code 1492 = .ok (.aload_n 0, 1) := by decide +kernel
theorem d_Law_law_1493 : decode code 1493 = .ok (.iload_n 3, 1) := by decide +kernel
theorem d_Law_law_1494 : decode code 1494 = .ok (.iconst 2, 1) := by decide +kernel
theorem d_Law_law_1495 : decode code 1495 = .ok (.iadd, 1) := by decide +kernel
theorem d_Law_law_1496 : decode code 1496 = .ok (.iaload, 1) := by decide +kernel
theorem d_Law_law_1497 : decode code 1497 = .ok (.invokevirtual 170, 3) := by decide +kernel
theorem d_Law_law_1500 : decode code 1500 = .ok (.aload_n 2, 1) := by decide +kernel
theorem d_Law_law_1501 : decode code 1501 = .ok (.aload_n 0, 1) := by decide +kernel
theorem d_Law_law_1502 : decode code 1502 = .ok (.iload_n 3, 1) := by decide +kernel
theorem d_Law_law_1503 : decode code 1503 = .ok (.iconst 1, 1) := by decide +kernel
theorem d_Law_law_1504 : decode code 1504 = .ok (.iadd, 1) := by decide +kernel
theorem d_Law_law_1505 : decode code 1505 = .ok (.iaload, 1) := by decide +kernel
theorem d_Law_law_1506 : decode code 1506 = .ok (.aload_n 0, 1) := by decide +kernel
theorem d_Law_law_1507 : decode code 1507 = .ok (.iload_n 3, 1) := by decide +kernel
theorem d_Law_law_1508 : decode code 1508 = .ok (.iconst 2, 1) := by decide +kernel
theorem d_Law_law_1509 : decode code 1509 = .ok (.iadd, 1) := by decide +kernel
theorem d_Law_law_1510 : decode code 1510 = .ok (.iaload, 1) := by decide +kernel
theorem d_Law_law_1511 : decode code 1511 = .ok (.invokevirtual 173, 3) := by decide +kernel
theorem d_Law_law_1514 : decode code 1514 = .ok (.if_icmp .eq 157, 3) := by decide +kernel
theorem d_Law_law_1517 : decode code 1517 = .ok (.iconst 0, 1) := by decide +kernel
theorem d_Law_law_1518 : decode code 1518 = .ok (.ireturn, 1) := by decide +kernel
theorem d_Law_law_1519 : decode code 1519 = .ok (.aload_n 1, 1) := by decide +kernel
theorem d_Law_law_1520 : decode code 1520 = .ok (.aload_n 0, 1) := by decide +kernel
theorem d_Law_law_1521 : decode code 1521 = .ok (.iload_n 3, 1) := by decide +kernel
theorem d_Law_law_1522 : decode code 1522 = .ok (.iconst 1, 1) := by decide +kernel
theorem d_Law_law_1523 : decode code 1523 = .ok (.iadd, 1) := by decide +kernel
theorem d_Law_law_1524 : decode code 1524 = .ok (.iaload, 1) := by decide +kernel
theorem d_Law_law_1525 : decode code 1525 = .ok (.aload_n 0, 1) := by decide +kernel
theorem d_Law_law_1526 : decode code 1526 = .ok (.iload_n 3, 1) := by decide +kernel
theorem d_Law_law_1527 : decode code 1527 = .ok (.iconst 2, 1) := by decide +kernel
theorem d_Law_law_1528 : decode code 1528 = .ok (.iadd, 1) := by decide +kernel
theorem d_Law_law_1529 : decode code 1529 = .ok (.iaload, 1) := by decide +kernel
theorem d_Law_law_1530 : decode code 1530 = .ok (.aload_n 0, 1) := by decide +kernel
theorem d_Law_law_1531 : decode code 1531 = .ok (.iload_n 3, 1) := by decide +kernel
theorem d_Law_law_1532 : decode code 1532 = .ok (.iconst 3, 1) := by decide +kernel
theorem d_Law_law_1533 : decode code 1533 = .ok (.iadd, 1) := by decide +kernel
theorem d_Law_law_1534 : decode code 1534 = .ok (.iaload, 1) := by decide +kernel
theorem d_Law_law_1535 : decode code 1535 = .ok (.i2l, 1) := by decide +kernel
theorem d_Law_law_1536 : decode code 1536 = .ok (.bipush 32, 2) := by decide +kernel
theorem d_Law_law_1538 : decode code 1538 = .ok (.lshl, 1) := by decide +kernel
theorem d_Law_law_1539 : decode code 1539 = .ok (.aload_n 0, 1) := by decide +kernel
theorem d_Law_law_1540 : decode code 1540 = .ok (.iload_n 3, 1) := by decide +kernel
theorem d_Law_law_1541 : decode code 1541 = .ok (.iconst 4, 1) := by decide +kernel
theorem d_Law_law_1542 : decode code 1542 = .ok (.iadd, 1) := by decide +kernel
theorem d_Law_law_1543 : decode code 1543 = .ok (.iaload, 1) := by decide +kernel
theorem d_Law_law_1544 : decode code 1544 = .ok (.i2l, 1) := by decide +kernel
theorem d_Law_law_1545 : decode code 1545 = .ok (.ldc2_w 66, 3) := by decide +kernel
theorem d_Law_law_1548 : decode code 1548 = .ok (.land, 1) := by decide +kernel
theorem d_Law_law_1549 : decode code 1549 = .ok (.lor, 1) := by decide +kernel
theorem d_Law_law_1550 : decode code 1550 = .ok (.aload_n 0, 1) := by decide +kernel
theorem d_Law_law_1551 : decode code 1551 = .ok (.iload_n 3, 1) := by decide +kernel
theorem d_Law_law_1552 : decode code 1552 = .ok (.iconst 5, 1) := by decide +kernel
theorem d_Law_law_1553 : decode code 1553 = .ok (.iadd, 1) := by decide +kernel
theorem d_Law_law_1554 : decode code 1554 = .ok (.iaload, 1) := by decide +kernel
theorem d_Law_law_1555 : decode code 1555 = .ok (.invokevirtual 174, 3) := by decide +kernel
theorem d_Law_law_1558 : decode code 1558 = .ok (.aload_n 2, 1) := by decide +kernel
theorem d_Law_law_1559 : decode code 1559 = .ok (.aload_n 0, 1) := by decide +kernel
theorem d_Law_law_1560 : decode code 1560 = .ok (.iload_n 3, 1) := by decide +kernel
theorem d_Law_law_1561 : decode code 1561 = .ok (.iconst 1, 1) := by decide +kernel
theorem d_Law_law_1562 : decode code 1562 = .ok (.iadd, 1) := by decide +kernel
theorem d_Law_law_1563 : decode code 1563 = .ok (.iaload, 1) := by decide +kernel
theorem d_Law_law_1564 : decode code 1564 = .ok (.aload_n 0, 1) := by decide +kernel
theorem d_Law_law_1565 : decode code 1565 = .ok (.iload_n 3, 1) := by decide +kernel
theorem d_Law_law_1566 : decode code 1566 = .ok (.iconst 2, 1) := by decide +kernel
theorem d_Law_law_1567 : decode code 1567 = .ok (.iadd, 1) := by decide +kernel
theorem d_Law_law_1568 : decode code 1568 = .ok (.iaload, 1) := by decide +kernel
theorem d_Law_law_1569 : decode code 1569 = .ok (.aload_n 0, 1) := by decide +kernel
theorem d_Law_law_1570 : decode code 1570 = .ok (.iload_n 3, 1) := by decide +kernel
theorem d_Law_law_1571 : decode code 1571 = .ok (.iconst 3, 1) := by decide +kernel
theorem d_Law_law_1572 : decode code 1572 = .ok (.iadd, 1) := by decide +kernel
theorem d_Law_law_1573 : decode code 1573 = .ok (.iaload, 1) := by decide +kernel
theorem d_Law_law_1574 : decode code 1574 = .ok (.i2l, 1) := by decide +kernel
theorem d_Law_law_1575 : decode code 1575 = .ok (.bipush 32, 2) := by decide +kernel
theorem d_Law_law_1577 : decode code 1577 = .ok (.lshl, 1) := by decide +kernel
theorem d_Law_law_1578 : decode code 1578 = .ok (.aload_n 0, 1) := by decide +kernel
theorem d_Law_law_1579 : decode code 1579 = .ok (.iload_n 3, 1) := by decide +kernel
theorem d_Law_law_1580 : decode code 1580 = .ok (.iconst 4, 1) := by decide +kernel
theorem d_Law_law_1581 : decode code 1581 = .ok (.iadd, 1) := by decide +kernel
theorem d_Law_law_1582 : decode code 1582 = .ok (.iaload, 1) := by decide +kernel
theorem d_Law_law_1583 : decode code 1583 = .ok (.i2l, 1) := by decide +kernel
theorem d_Law_law_1584 : decode code 1584 = .ok (.ldc2_w 66, 3) := by decide +kernel
theorem d_Law_law_1587 : decode code 1587 = .ok (.land, 1) := by decide +kernel
theorem d_Law_law_1588 : decode code 1588 = .ok (.lor, 1) := by decide +kernel
theorem d_Law_law_1589 : decode code 1589 = .ok (.aload_n 0, 1) := by decide +kernel
theorem d_Law_law_1590 : decode code 1590 = .ok (.iload_n 3, 1) := by decide +kernel
theorem d_Law_law_1591 : decode code 1591 = .ok (.iconst 5, 1) := by decide +kernel
theorem d_Law_law_1592 : decode code 1592 = .ok (.iadd, 1) := by decide +kernel
theorem d_Law_law_1593 : decode code 1593 = .ok (.iaload, 1) := by decide +kernel
theorem d_Law_law_1594 : decode code 1594 = .ok (.invokevirtual 178, 3) := by decide +kernel
theorem d_Law_law_1597 : decode code 1597 = .ok (.if_icmp .eq 74, 3) := by decide +kernel
theorem d_Law_law_1600 : decode code 1600 = .ok (.iconst 0, 1) := by decide +kernel
theorem d_Law_law_1601 : decode code 1601 = .ok (.ireturn, 1) := by decide +kernel
theorem d_Law_law_1602 : decode code 1602 = .ok (.aload_n 1, 1) := by decide +kernel
theorem d_Law_law_1603 : decode code 1603 = .ok (.aload_n 0, 1) := by decide +kernel
theorem d_Law_law_1604 : decode code 1604 = .ok (.iload_n 3, 1) := by decide +kernel
theorem d_Law_law_1605 : decode code 1605 = .ok (.iconst 1, 1) := by decide +kernel
theorem d_Law_law_1606 : decode code 1606 = .ok (.iadd, 1) := by decide +kernel
theorem d_Law_law_1607 : decode code 1607 = .ok (.iaload, 1) := by decide +kernel
theorem d_Law_law_1608 : decode code 1608 = .ok (.invokevirtual 179, 3) := by decide +kernel
theorem d_Law_law_1611 : decode code 1611 = .ok (.aload_n 2, 1) := by decide +kernel
theorem d_Law_law_1612 : decode code 1612 = .ok (.aload_n 0, 1) := by decide +kernel
theorem d_Law_law_1613 : decode code 1613 = .ok (.iload_n 3, 1) := by decide +kernel
theorem d_Law_law_1614 : decode code 1614 = .ok (.iconst 1, 1) := by decide +kernel
theorem d_Law_law_1615 : decode code 1615 = .ok (.iadd, 1) := by decide +kernel
theorem d_Law_law_1616 : decode code 1616 = .ok (.iaload, 1) := by decide +kernel
theorem d_Law_law_1617 : decode code 1617 = .ok (.invokevirtual 182, 3) := by decide +kernel
theorem d_Law_law_1620 : decode code 1620 = .ok (.if_icmp .eq 51, 3) := by decide +kernel
theorem d_Law_law_1623 : decode code 1623 = .ok (.iconst 0, 1) := by decide +kernel
theorem d_Law_law_1624 : decode code 1624 = .ok (.ireturn, 1) := by decide +kernel
theorem d_Law_law_1625 : decode code 1625 = .ok (.aload_n 1, 1) := by decide +kernel
theorem d_Law_law_1626 : decode code 1626 = .ok (.aload_n 0, 1) := by decide +kernel
theorem d_Law_law_1627 : decode code 1627 = .ok (.iload_n 3, 1) := by decide +kernel
theorem d_Law_law_1628 : decode code 1628 = .ok (.iconst 1, 1) := by decide +kernel
theorem d_Law_law_1629 : decode code 1629 = .ok (.iadd, 1) := by decide +kernel
theorem d_Law_law_1630 : decode code 1630 = .ok (.iaload, 1) := by decide +kernel
theorem d_Law_law_1631 : decode code 1631 = .ok (.invokevirtual 183, 3) := by decide +kernel
theorem d_Law_law_1634 : decode code 1634 = .ok (.aload_n 2, 1) := by decide +kernel
theorem d_Law_law_1635 : decode code 1635 = .ok (.aload_n 0, 1) := by decide +kernel
theorem d_Law_law_1636 : decode code 1636 = .ok (.iload_n 3, 1) := by decide +kernel
theorem d_Law_law_1637 : decode code 1637 = .ok (.iconst 1, 1) := by decide +kernel
theorem d_Law_law_1638 : decode code 1638 = .ok (.iadd, 1) := by decide +kernel
theorem d_Law_law_1639 : decode code 1639 = .ok (.iaload, 1) := by decide +kernel
theorem d_Law_law_1640 : decode code 1640 = .ok (.invokevirtual 186, 3) := by decide +kernel
theorem d_Law_law_1643 : decode code 1643 = .ok (.if_icmp .eq 28, 3) := by decide +kernel
theorem d_Law_law_1646 : decode code 1646 = .ok (.iconst 0, 1) := by decide +kernel
theorem d_Law_law_1647 : decode code 1647 = .ok (.ireturn, 1) := by decide +kernel
theorem d_Law_law_1648 : decode code 1648 = .ok (.aload_n 1, 1) := by decide +kernel
theorem d_Law_law_1649 : decode code 1649 = .ok (.aload_n 0, 1) := by decide +kernel
theorem d_Law_law_1650 : decode code 1650 = .ok (.iload_n 3, 1) := by decide +kernel
theorem d_Law_law_1651 : decode code 1651 = .ok (.iconst 1, 1) := by decide +kernel
theorem d_Law_law_1652 : decode code 1652 = .ok (.iadd, 1) := by decide +kernel
theorem d_Law_law_1653 : decode code 1653 = .ok (.iaload, 1) := by decide +kernel
theorem d_Law_law_1654 : decode code 1654 = .ok (.invokevirtual 187, 3) := by decide +kernel
theorem d_Law_law_1657 : decode code 1657 = .ok (.aload_n 2, 1) := by decide +kernel
theorem d_Law_law_1658 : decode code 1658 = .ok (.aload_n 0, 1) := by decide +kernel
theorem d_Law_law_1659 : decode code 1659 = .ok (.iload_n 3, 1) := by decide +kernel
theorem d_Law_law_1660 : decode code 1660 = .ok (.iconst 1, 1) := by decide +kernel
theorem d_Law_law_1661 : decode code 1661 = .ok (.iadd, 1) := by decide +kernel
theorem d_Law_law_1662 : decode code 1662 = .ok (.iaload, 1) := by decide +kernel
theorem d_Law_law_1663 : decode code 1663 = .ok (.invokevirtual 190, 3) := by decide +kernel
theorem d_Law_law_1666 : decode code 1666 = .ok (.if_icmp .eq 5, 3) := by decide +kernel
theorem d_Law_law_1669 : decode code 1669 = .ok (.iconst 0, 1) := by decide +kernel
theorem d_Law_law_1670 : decode code 1670 = .ok (.ireturn, 1) := by decide +kernel
theorem d_Law_law_1671 : decode code 1671 = .ok (.iinc 3 6, 3) := by decide +kernel
theorem d_Law_law_1674 : decode code 1674 = .ok (.goto (-1656), 3) := by decide +kernel
theorem d_Law_law_1677 : decode code 1677 = .ok (.iconst 1, 1) := by decide +kernel
theorem d_Law_law_1678 : decode code 1678 = .ok (.ireturn, 1) := by decide +kernel
set_option maxRecDepth 20000 in
theorem jc_Law_law_1671 (N : Nat) (xs : Nat → Int32) (L : Nat) (hX : va_X b L xs s s.heap) (hbl : b < s.heap.size) (hbA : ¬ B ≤ b) (re18 : Option Nat → Option Nat → Int32 → Hp → Option (Int32 × Hp)) (hre18 : ∀ y0 y1 y2 h, J p l e room_1 s m #[Value.ref b] below meth c code 4 "RingingChamberLaw" 2048 84000 (some .boolean) meth.name D dA B 0 0 (QLw below b s) 18 [(0, vb b), (1, vr y0), (2, vr y1), (3, vi y2)] [] h (re18 y0 y1 y2 h)) (l1 : Option Nat) (l2 : Option Nat) (l3 : Int32) (h : Hp) : J p l e room_1 s m #[Value.ref b] below meth c code 4 "RingingChamberLaw" 2048 84000 (some .boolean) meth.name D dA B 0 0 (QLw below b s) 1671 [(0, vb b), (1, vr l1), (2, vr l2), (3, vi l3)] [] h (Law_law_1671 N xs L re18 l1 l2 l3 h) := by
  unfold Law_law_1671
  refine j_iinc (lvv := fun x1 => [(3, vi x1), (0, vb b), (1, vr l1), (2, vr l2)]) d_Law_law_1671 3 rfl rfl (by decide) (fun _ => rfl) (fun x1 => ?_)
  refine j_goto (tgt := 18) d_Law_law_1674 (by decide) ?_
  exact J.sub [1, 2, 3, 0] rfl (hre18 l1 l2 x1 h)
set_option maxRecDepth 20000 in
theorem jc_Law_law_1308 (N : Nat) (xs : Nat → Int32) (L : Nat) (hX : va_X b L xs s s.heap) (hbl : b < s.heap.size) (hbA : ¬ B ≤ b) (re18 : Option Nat → Option Nat → Int32 → Hp → Option (Int32 × Hp)) (hre18 : ∀ y0 y1 y2 h, J p l e room_1 s m #[Value.ref b] below meth c code 4 "RingingChamberLaw" 2048 84000 (some .boolean) meth.name D dA B 0 0 (QLw below b s) 18 [(0, vb b), (1, vr y0), (2, vr y1), (3, vi y2)] [] h (re18 y0 y1 y2 h)) (l1 : Option Nat) (l2 : Option Nat) (l3 : Int32) (u0 : Int32) (u1 : Option Nat) (u2 : Int32) (u3 : Int32) (h : Hp) : J p l e room_1 s m #[Value.ref b] below meth c code 4 "RingingChamberLaw" 2048 84000 (some .boolean) meth.name D dA B 0 0 (QLw below b s) 1308 [(0, vb b), (1, vr l1), (2, vr l2), (3, vi l3)] [vi u3, vi u2, vr u1, vi u0] h (Law_law_1308 N xs L re18 l1 l2 l3 u0 u1 u2 u3 h) := by
  unfold Law_law_1308
  refine j_vI2 d_Law_law_1308 (allQ.cons (VD.mk vt_L_156_12 (ct_M_ringer N l D dA B u1 u2 u3 h) (by decide) (by decide)) allQ.nil) (Nat.le_of_ble_eq_true rfl) (fun x2 h1 => ?_)
  refine j_icmp_eq (tgt := 1671) d_Law_law_1311 (by decide) ?_ ?_
  · exact jc_Law_law_1671 N xs L hX hbl hbA re18 hre18 l1 l2 l3 h1
  · refine j_iconst (v := 0) d_Law_law_1314 (by decide) ?_
    exact j_retLaw d_Law_law_1315
set_option maxRecDepth 20000 in
theorem jc_Law_law_1286 (N : Nat) (xs : Nat → Int32) (L : Nat) (hX : va_X b L xs s s.heap) (hbl : b < s.heap.size) (hbA : ¬ B ≤ b) (re18 : Option Nat → Option Nat → Int32 → Hp → Option (Int32 × Hp)) (hre18 : ∀ y0 y1 y2 h, J p l e room_1 s m #[Value.ref b] below meth c code 4 "RingingChamberLaw" 2048 84000 (some .boolean) meth.name D dA B 0 0 (QLw below b s) 18 [(0, vb b), (1, vr y0), (2, vr y1), (3, vi y2)] [] h (re18 y0 y1 y2 h)) (l1 : Option Nat) (l2 : Option Nat) (l3 : Int32) (u0 : Option Nat) (u1 : Int32) (u2 : Int32) (h : Hp) : J p l e room_1 s m #[Value.ref b] below meth c code 4 "RingingChamberLaw" 2048 84000 (some .boolean) meth.name D dA B 0 0 (QLw below b s) 1286 [(0, vb b), (1, vr l1), (2, vr l2), (3, vi l3)] [vi u2, vi u1, vr u0] h (Law_law_1286 N xs L re18 l1 l2 l3 u0 u1 u2 h) := by
  unfold Law_law_1286
  refine j_vI2 d_Law_law_1286 (allQ.cons (VD.mk vt_L_152_11 (ct_C_ringer N l D dA B u0 u1 u2 h) (by decide) (by decide)) allQ.nil) (Nat.le_of_ble_eq_true rfl) (fun x2 h1 => ?_)
  refine j_aload_n d_Law_law_1289 2 rfl rfl ?_
  refine j_aload_nA d_Law_law_1290 0 rfl rfl ?_
  refine j_iload_n d_Law_law_1291 3 rfl rfl ?_
  refine j_iconst (v := 1) d_Law_law_1292 (by decide) ?_
  refine j_iadd d_Law_law_1293 ?_
  refine j_sld hX hbl hbA d_Law_law_1294 (fun x3 => ?_)
  refine j_aload_nA d_Law_law_1295 0 rfl rfl ?_
  refine j_iload_n d_Law_law_1296 3 rfl rfl ?_
  refine j_iconst (v := 2) d_Law_law_1297 (by decide) ?_
  refine j_iadd d_Law_law_1298 ?_
  refine j_sld hX hbl hbA d_Law_law_1299 (fun x4 => ?_)
  refine j_if_eq (tgt := 1307) d_Law_law_1300 (by decide) ?_ ?_
  · refine j_iconst (v := 0) d_Law_law_1307 (by decide) ?_
    exact jc_Law_law_1308 N xs L hX hbl hbA re18 hre18 l1 l2 l3 x2 l2 x3 0 h1
  · refine j_iconst (v := 1) d_Law_law_1303 (by decide) ?_
    refine j_goto (tgt := 1308) d_Law_law_1304 (by decide) ?_
    exact jc_Law_law_1308 N xs L hX hbl hbA re18 hre18 l1 l2 l3 x2 l2 x3 1 h1
set_option maxRecDepth 20000 in
theorem jc_Law_law_18 (N : Nat) (xs : Nat → Int32) (L : Nat) (hX : va_X b L xs s s.heap) (hbl : b < s.heap.size) (hbA : ¬ B ≤ b) : ∀ (n : Nat) (l1 : Option Nat) (l2 : Option Nat) (l3 : Int32) (h : Hp), J p l e room_1 s m #[Value.ref b] below meth c code 4 "RingingChamberLaw" 2048 84000 (some .boolean) meth.name D dA B 0 0 (QLw below b s) 18 [(0, vb b), (1, vr l1), (2, vr l2), (3, vi l3)] [] h (Law_law_18 N xs L n l1 l2 l3 h) := by
  intro n
  induction n with
  | zero => intros; exact J.none
  | succ n ih =>
    intro l1 l2 l3 h
    rw [Law_law_18]
    refine j_iload_n d_Law_law_18 3 rfl rfl ?_
    refine j_aload_nA d_Law_law_19 0 rfl rfl ?_
    refine j_slen hX hbl hbA d_Law_law_20 ?_
    refine j_nmi (fun x1 => ?_)
    refine j_bipush (v := 6) d_Law_law_21 (by decide) ?_
    refine j_isub d_Law_law_23 ?_
    refine j_icmp_gt (tgt := 1677) d_Law_law_24 (by decide) ?_ ?_
    · refine j_iconst (v := 1) d_Law_law_1677 (by decide) ?_
      exact j_retLaw d_Law_law_1678
    · refine j_aload_nA d_Law_law_27 0 rfl rfl ?_
      refine j_iload_n d_Law_law_28 3 rfl rfl ?_
      refine j_sld hX hbl hbA d_Law_law_29 (fun x2 => ?_)
      refine j_bipush (v := 63) d_Law_law_30 (by decide) ?_
      refine j_iand d_Law_law_32 ?_
      refine j_tsw (ts := [(0, 208), (1, 271), (2, 294), (3, 317), (4, 340), (5, 363), (6, 396), (7, 449), (8, 482), (9, 535), (10, 558), (11, 592), (12, 615), (13, 678), (14, 711), (15, 775), (16, 828), (17, 852), (18, 946), (19, 1000), (20, 1053), (21, 1086), (22, 1099), (23, 1112), (24, 1135), (25, 1159), (26, 1172), (27, 1185), (28, 1198), (29, 1221), (30, 1254), (31, 1267), (32, 1316), (33, 1340), (34, 1433), (35, 1486), (36, 1519), (37, 1602), (38, 1625), (39, 1648)]) (d := 1671) d_Law_law_33 (by decide +kernel) (by decide) (by decide +kernel) (by decide) rfl ((allQ.cons (sw_case (t := 208) (by decide) ?_) (allQ.cons (sw_case (t := 271) (by decide) ?_) (allQ.cons (sw_case (t := 294) (by decide) ?_) (allQ.cons (sw_case (t := 317) (by decide) ?_) (allQ.cons (sw_case (t := 340) (by decide) ?_) (allQ.cons (sw_case (t := 363) (by decide) ?_) (allQ.cons (sw_case (t := 396) (by decide) ?_) (allQ.cons (sw_case (t := 449) (by decide) ?_) (allQ.cons (sw_case (t := 482) (by decide) ?_) (allQ.cons (sw_case (t := 535) (by decide) ?_) (allQ.cons (sw_case (t := 558) (by decide) ?_) (allQ.cons (sw_case (t := 592) (by decide) ?_) (allQ.cons (sw_case (t := 615) (by decide) ?_) (allQ.cons (sw_case (t := 678) (by decide) ?_) (allQ.cons (sw_case (t := 711) (by decide) ?_) (allQ.cons (sw_case (t := 775) (by decide) ?_) (allQ.cons (sw_case (t := 828) (by decide) ?_) (allQ.cons (sw_case (t := 852) (by decide) ?_) (allQ.cons (sw_case (t := 946) (by decide) ?_) (allQ.cons (sw_case (t := 1000) (by decide) ?_) (allQ.cons (sw_case (t := 1053) (by decide) ?_) (allQ.cons (sw_case (t := 1086) (by decide) ?_) (allQ.cons (sw_case (t := 1099) (by decide) ?_) (allQ.cons (sw_case (t := 1112) (by decide) ?_) (allQ.cons (sw_case (t := 1135) (by decide) ?_) (allQ.cons (sw_case (t := 1159) (by decide) ?_) (allQ.cons (sw_case (t := 1172) (by decide) ?_) (allQ.cons (sw_case (t := 1185) (by decide) ?_) (allQ.cons (sw_case (t := 1198) (by decide) ?_) (allQ.cons (sw_case (t := 1221) (by decide) ?_) (allQ.cons (sw_case (t := 1254) (by decide) ?_) (allQ.cons (sw_case (t := 1267) (by decide) ?_) (allQ.cons (sw_case (t := 1316) (by decide) ?_) (allQ.cons (sw_case (t := 1340) (by decide) ?_) (allQ.cons (sw_case (t := 1433) (by decide) ?_) (allQ.cons (sw_case (t := 1486) (by decide) ?_) (allQ.cons (sw_case (t := 1519) (by decide) ?_) (allQ.cons (sw_case (t := 1602) (by decide) ?_) (allQ.cons (sw_case (t := 1625) (by decide) ?_) (allQ.cons (sw_case (t := 1648) (by decide) ?_) allQ.nil))))))))))))))))))))))))))))))))))))))))) ?_
      · refine j_aload_n d_Law_law_208 1 rfl rfl ?_
        refine j_aload_nA d_Law_law_209 0 rfl rfl ?_
        refine j_iload_n d_Law_law_210 3 rfl rfl ?_
        refine j_iconst (v := 1) d_Law_law_211 (by decide) ?_
        refine j_iadd d_Law_law_212 ?_
        refine j_sld hX hbl hbA d_Law_law_213 (fun x3 => ?_)
        refine j_aload_nA d_Law_law_214 0 rfl rfl ?_
        refine j_iload_n d_Law_law_215 3 rfl rfl ?_
        refine j_iconst (v := 2) d_Law_law_216 (by decide) ?_
        refine j_iadd d_Law_law_217 ?_
        refine j_sld hX hbl hbA d_Law_law_218 (fun x4 => ?_)
        refine j_aload_nA d_Law_law_219 0 rfl rfl ?_
        refine j_iload_n d_Law_law_220 3 rfl rfl ?_
        refine j_iconst (v := 3) d_Law_law_221 (by decide) ?_
        refine j_iadd d_Law_law_222 ?_
        refine j_sld hX hbl hbA d_Law_law_223 (fun x5 => ?_)
        refine j_aload_nA d_Law_law_224 0 rfl rfl ?_
        refine j_iload_n d_Law_law_225 3 rfl rfl ?_
        refine j_iconst (v := 4) d_Law_law_226 (by decide) ?_
        refine j_iadd d_Law_law_227 ?_
        refine j_sld hX hbl hbA d_Law_law_228 (fun x6 => ?_)
        refine j_aload_nA d_Law_law_229 0 rfl rfl ?_
        refine j_iload_n d_Law_law_230 3 rfl rfl ?_
        refine j_iconst (v := 5) d_Law_law_231 (by decide) ?_
        refine j_iadd d_Law_law_232 ?_
        refine j_sld hX hbl hbA d_Law_law_233 (fun x7 => ?_)
        refine j_vI5 d_Law_law_234 (allQ.cons (VD.mk vt_L_13_11 (ct_C_feed N l D dA B l1 x3 x4 x5 x6 x7 h) (by decide) (by decide)) allQ.nil) (Nat.le_of_ble_eq_true rfl) (fun x9 h8 => ?_)
        refine j_aload_n d_Law_law_237 2 rfl rfl ?_
        refine j_aload_nA d_Law_law_238 0 rfl rfl ?_
        refine j_iload_n d_Law_law_239 3 rfl rfl ?_
        refine j_iconst (v := 1) d_Law_law_240 (by decide) ?_
        refine j_iadd d_Law_law_241 ?_
        refine j_sld hX hbl hbA d_Law_law_242 (fun x10 => ?_)
        refine j_aload_nA d_Law_law_243 0 rfl rfl ?_
        refine j_iload_n d_Law_law_244 3 rfl rfl ?_
        refine j_iconst (v := 2) d_Law_law_245 (by decide) ?_
        refine j_iadd d_Law_law_246 ?_
        refine j_sld hX hbl hbA d_Law_law_247 (fun x11 => ?_)
        refine j_aload_nA d_Law_law_248 0 rfl rfl ?_
        refine j_iload_n d_Law_law_249 3 rfl rfl ?_
        refine j_iconst (v := 3) d_Law_law_250 (by decide) ?_
        refine j_iadd d_Law_law_251 ?_
        refine j_sld hX hbl hbA d_Law_law_252 (fun x12 => ?_)
        refine j_aload_nA d_Law_law_253 0 rfl rfl ?_
        refine j_iload_n d_Law_law_254 3 rfl rfl ?_
        refine j_iconst (v := 4) d_Law_law_255 (by decide) ?_
        refine j_iadd d_Law_law_256 ?_
        refine j_sld hX hbl hbA d_Law_law_257 (fun x13 => ?_)
        refine j_aload_nA d_Law_law_258 0 rfl rfl ?_
        refine j_iload_n d_Law_law_259 3 rfl rfl ?_
        refine j_iconst (v := 5) d_Law_law_260 (by decide) ?_
        refine j_iadd d_Law_law_261 ?_
        refine j_sld hX hbl hbA d_Law_law_262 (fun x14 => ?_)
        refine j_vI5 d_Law_law_263 (allQ.cons (VD.mk vt_L_17_12 (ct_M_feed N l D dA B l2 x10 x11 x12 x13 x14 h8) (by decide) (by decide)) allQ.nil) (Nat.le_of_ble_eq_true rfl) (fun x16 h15 => ?_)
        refine j_icmp_eq (tgt := 1671) d_Law_law_266 (by decide) ?_ ?_
        · exact jc_Law_law_1671 N xs L hX hbl hbA (Law_law_18 N xs L n) ih l1 l2 l3 h15
        · refine j_iconst (v := 0) d_Law_law_269 (by decide) ?_
          exact j_retLaw d_Law_law_270
      · refine j_aload_n d_Law_law_271 1 rfl rfl ?_
        refine j_aload_nA d_Law_law_272 0 rfl rfl ?_
        refine j_iload_n d_Law_law_273 3 rfl rfl ?_
        refine j_iconst (v := 1) d_Law_law_274 (by decide) ?_
        refine j_iadd d_Law_law_275 ?_
        refine j_sld hX hbl hbA d_Law_law_276 (fun x17 => ?_)
        refine j_vI1 d_Law_law_277 (allQ.cons (VD.mk vt_L_18_11 (ct_C_end N l D dA B l1 x17 h) (by decide) (by decide)) allQ.nil) (Nat.le_of_ble_eq_true rfl) (fun x19 h18 => ?_)
        refine j_aload_n d_Law_law_280 2 rfl rfl ?_
        refine j_aload_nA d_Law_law_281 0 rfl rfl ?_
        refine j_iload_n d_Law_law_282 3 rfl rfl ?_
        refine j_iconst (v := 1) d_Law_law_283 (by decide) ?_
        refine j_iadd d_Law_law_284 ?_
        refine j_sld hX hbl hbA d_Law_law_285 (fun x20 => ?_)
        refine j_vI1 d_Law_law_286 (allQ.cons (VD.mk vt_L_22_12 (ct_M_end N l D dA B l2 x20 h18) (by decide) (by decide)) allQ.nil) (Nat.le_of_ble_eq_true rfl) (fun x22 h21 => ?_)
        refine j_icmp_eq (tgt := 1671) d_Law_law_289 (by decide) ?_ ?_
        · exact jc_Law_law_1671 N xs L hX hbl hbA (Law_law_18 N xs L n) ih l1 l2 l3 h21
        · refine j_iconst (v := 0) d_Law_law_292 (by decide) ?_
          exact j_retLaw d_Law_law_293
      · refine j_aload_n d_Law_law_294 1 rfl rfl ?_
        refine j_aload_nA d_Law_law_295 0 rfl rfl ?_
        refine j_iload_n d_Law_law_296 3 rfl rfl ?_
        refine j_iconst (v := 1) d_Law_law_297 (by decide) ?_
        refine j_iadd d_Law_law_298 ?_
        refine j_sld hX hbl hbA d_Law_law_299 (fun x23 => ?_)
        refine j_vI1 d_Law_law_300 (allQ.cons (VD.mk vt_L_23_11 (ct_C_bells N l D dA B l1 x23 h) (by decide) (by decide)) allQ.nil) (Nat.le_of_ble_eq_true rfl) (fun x25 h24 => ?_)
        refine j_aload_n d_Law_law_303 2 rfl rfl ?_
        refine j_aload_nA d_Law_law_304 0 rfl rfl ?_
        refine j_iload_n d_Law_law_305 3 rfl rfl ?_
        refine j_iconst (v := 1) d_Law_law_306 (by decide) ?_
        refine j_iadd d_Law_law_307 ?_
        refine j_sld hX hbl hbA d_Law_law_308 (fun x26 => ?_)
        refine j_vI1 d_Law_law_309 (allQ.cons (VD.mk vt_L_26_12 (ct_M_bells N l D dA B l2 x26 h24) (by decide) (by decide)) allQ.nil) (Nat.le_of_ble_eq_true rfl) (fun x28 h27 => ?_)
        refine j_icmp_eq (tgt := 1671) d_Law_law_312 (by decide) ?_ ?_
        · exact jc_Law_law_1671 N xs L hX hbl hbA (Law_law_18 N xs L n) ih l1 l2 l3 h27
        · refine j_iconst (v := 0) d_Law_law_315 (by decide) ?_
          exact j_retLaw d_Law_law_316
      · refine j_aload_n d_Law_law_317 1 rfl rfl ?_
        refine j_aload_nA d_Law_law_318 0 rfl rfl ?_
        refine j_iload_n d_Law_law_319 3 rfl rfl ?_
        refine j_iconst (v := 1) d_Law_law_320 (by decide) ?_
        refine j_iadd d_Law_law_321 ?_
        refine j_sld hX hbl hbA d_Law_law_322 (fun x29 => ?_)
        refine j_vI1 d_Law_law_323 (allQ.cons (VD.mk vt_L_27_11 (ct_C_method N l D dA B l1 x29 h) (by decide) (by decide)) allQ.nil) (Nat.le_of_ble_eq_true rfl) (fun x31 h30 => ?_)
        refine j_aload_n d_Law_law_326 2 rfl rfl ?_
        refine j_aload_nA d_Law_law_327 0 rfl rfl ?_
        refine j_iload_n d_Law_law_328 3 rfl rfl ?_
        refine j_iconst (v := 1) d_Law_law_329 (by decide) ?_
        refine j_iadd d_Law_law_330 ?_
        refine j_sld hX hbl hbA d_Law_law_331 (fun x32 => ?_)
        refine j_vI1 d_Law_law_332 (allQ.cons (VD.mk vt_L_30_12 (ct_M_method N l D dA B l2 x32 h30) (by decide) (by decide)) allQ.nil) (Nat.le_of_ble_eq_true rfl) (fun x34 h33 => ?_)
        refine j_icmp_eq (tgt := 1671) d_Law_law_335 (by decide) ?_ ?_
        · exact jc_Law_law_1671 N xs L hX hbl hbA (Law_law_18 N xs L n) ih l1 l2 l3 h33
        · refine j_iconst (v := 0) d_Law_law_338 (by decide) ?_
          exact j_retLaw d_Law_law_339
      · refine j_aload_n d_Law_law_340 1 rfl rfl ?_
        refine j_aload_nA d_Law_law_341 0 rfl rfl ?_
        refine j_iload_n d_Law_law_342 3 rfl rfl ?_
        refine j_iconst (v := 1) d_Law_law_343 (by decide) ?_
        refine j_iadd d_Law_law_344 ?_
        refine j_sld hX hbl hbA d_Law_law_345 (fun x35 => ?_)
        refine j_vI1 d_Law_law_346 (allQ.cons (VD.mk vt_L_31_11 (ct_C_notation N l D dA B l1 x35 h) (by decide) (by decide)) allQ.nil) (Nat.le_of_ble_eq_true rfl) (fun x37 h36 => ?_)
        refine j_aload_n d_Law_law_349 2 rfl rfl ?_
        refine j_aload_nA d_Law_law_350 0 rfl rfl ?_
        refine j_iload_n d_Law_law_351 3 rfl rfl ?_
        refine j_iconst (v := 1) d_Law_law_352 (by decide) ?_
        refine j_iadd d_Law_law_353 ?_
        refine j_sld hX hbl hbA d_Law_law_354 (fun x38 => ?_)
        refine j_vI1 d_Law_law_355 (allQ.cons (VD.mk vt_L_34_12 (ct_M_notation N l D dA B l2 x38 h36) (by decide) (by decide)) allQ.nil) (Nat.le_of_ble_eq_true rfl) (fun x40 h39 => ?_)
        refine j_icmp_eq (tgt := 1671) d_Law_law_358 (by decide) ?_ ?_
        · exact jc_Law_law_1671 N xs L hX hbl hbA (Law_law_18 N xs L n) ih l1 l2 l3 h39
        · refine j_iconst (v := 0) d_Law_law_361 (by decide) ?_
          exact j_retLaw d_Law_law_362
      · refine j_aload_n d_Law_law_363 1 rfl rfl ?_
        refine j_aload_nA d_Law_law_364 0 rfl rfl ?_
        refine j_iload_n d_Law_law_365 3 rfl rfl ?_
        refine j_iconst (v := 1) d_Law_law_366 (by decide) ?_
        refine j_iadd d_Law_law_367 ?_
        refine j_sld hX hbl hbA d_Law_law_368 (fun x41 => ?_)
        refine j_aload_nA d_Law_law_369 0 rfl rfl ?_
        refine j_iload_n d_Law_law_370 3 rfl rfl ?_
        refine j_iconst (v := 2) d_Law_law_371 (by decide) ?_
        refine j_iadd d_Law_law_372 ?_
        refine j_sld hX hbl hbA d_Law_law_373 (fun x42 => ?_)
        refine j_vI2 d_Law_law_374 (allQ.cons (VD.mk vt_L_35_11 (ct_C_cut N l D dA B l1 x41 x42 h) (by decide) (by decide)) allQ.nil) (Nat.le_of_ble_eq_true rfl) (fun x44 h43 => ?_)
        refine j_aload_n d_Law_law_377 2 rfl rfl ?_
        refine j_aload_nA d_Law_law_378 0 rfl rfl ?_
        refine j_iload_n d_Law_law_379 3 rfl rfl ?_
        refine j_iconst (v := 1) d_Law_law_380 (by decide) ?_
        refine j_iadd d_Law_law_381 ?_
        refine j_sld hX hbl hbA d_Law_law_382 (fun x45 => ?_)
        refine j_aload_nA d_Law_law_383 0 rfl rfl ?_
        refine j_iload_n d_Law_law_384 3 rfl rfl ?_
        refine j_iconst (v := 2) d_Law_law_385 (by decide) ?_
        refine j_iadd d_Law_law_386 ?_
        refine j_sld hX hbl hbA d_Law_law_387 (fun x46 => ?_)
        refine j_vI2 d_Law_law_388 (allQ.cons (VD.mk vt_L_39_12 (ct_M_cut N l D dA B l2 x45 x46 h43) (by decide) (by decide)) allQ.nil) (Nat.le_of_ble_eq_true rfl) (fun x48 h47 => ?_)
        refine j_icmp_eq (tgt := 1671) d_Law_law_391 (by decide) ?_ ?_
        · exact jc_Law_law_1671 N xs L hX hbl hbA (Law_law_18 N xs L n) ih l1 l2 l3 h47
        · refine j_iconst (v := 0) d_Law_law_394 (by decide) ?_
          exact j_retLaw d_Law_law_395
      · refine j_aload_n d_Law_law_396 1 rfl rfl ?_
        refine j_aload_nA d_Law_law_397 0 rfl rfl ?_
        refine j_iload_n d_Law_law_398 3 rfl rfl ?_
        refine j_iconst (v := 1) d_Law_law_399 (by decide) ?_
        refine j_iadd d_Law_law_400 ?_
        refine j_sld hX hbl hbA d_Law_law_401 (fun x49 => ?_)
        refine j_aload_nA d_Law_law_402 0 rfl rfl ?_
        refine j_iload_n d_Law_law_403 3 rfl rfl ?_
        refine j_iconst (v := 2) d_Law_law_404 (by decide) ?_
        refine j_iadd d_Law_law_405 ?_
        refine j_sld hX hbl hbA d_Law_law_406 (fun x50 => ?_)
        refine j_aload_nA d_Law_law_407 0 rfl rfl ?_
        refine j_iload_n d_Law_law_408 3 rfl rfl ?_
        refine j_iconst (v := 3) d_Law_law_409 (by decide) ?_
        refine j_iadd d_Law_law_410 ?_
        refine j_sld hX hbl hbA d_Law_law_411 (fun x51 => ?_)
        refine j_aload_nA d_Law_law_412 0 rfl rfl ?_
        refine j_iload_n d_Law_law_413 3 rfl rfl ?_
        refine j_iconst (v := 4) d_Law_law_414 (by decide) ?_
        refine j_iadd d_Law_law_415 ?_
        refine j_sld hX hbl hbA d_Law_law_416 (fun x52 => ?_)
        refine j_vI4 d_Law_law_417 (allQ.cons (VD.mk vt_L_40_11 (ct_C_called N l D dA B l1 x49 x50 x51 x52 h) (by decide) (by decide)) allQ.nil) (Nat.le_of_ble_eq_true rfl) (fun x54 h53 => ?_)
        refine j_aload_n d_Law_law_420 2 rfl rfl ?_
        refine j_aload_nA d_Law_law_421 0 rfl rfl ?_
        refine j_iload_n d_Law_law_422 3 rfl rfl ?_
        refine j_iconst (v := 1) d_Law_law_423 (by decide) ?_
        refine j_iadd d_Law_law_424 ?_
        refine j_sld hX hbl hbA d_Law_law_425 (fun x55 => ?_)
        refine j_aload_nA d_Law_law_426 0 rfl rfl ?_
        refine j_iload_n d_Law_law_427 3 rfl rfl ?_
        refine j_iconst (v := 2) d_Law_law_428 (by decide) ?_
        refine j_iadd d_Law_law_429 ?_
        refine j_sld hX hbl hbA d_Law_law_430 (fun x56 => ?_)
        refine j_aload_nA d_Law_law_431 0 rfl rfl ?_
        refine j_iload_n d_Law_law_432 3 rfl rfl ?_
        refine j_iconst (v := 3) d_Law_law_433 (by decide) ?_
        refine j_iadd d_Law_law_434 ?_
        refine j_sld hX hbl hbA d_Law_law_435 (fun x57 => ?_)
        refine j_aload_nA d_Law_law_436 0 rfl rfl ?_
        refine j_iload_n d_Law_law_437 3 rfl rfl ?_
        refine j_iconst (v := 4) d_Law_law_438 (by decide) ?_
        refine j_iadd d_Law_law_439 ?_
        refine j_sld hX hbl hbA d_Law_law_440 (fun x58 => ?_)
        refine j_vI4 d_Law_law_441 (allQ.cons (VD.mk vt_L_44_12 (ct_M_called N l D dA B l2 x55 x56 x57 x58 h53) (by decide) (by decide)) allQ.nil) (Nat.le_of_ble_eq_true rfl) (fun x60 h59 => ?_)
        refine j_icmp_eq (tgt := 1671) d_Law_law_444 (by decide) ?_ ?_
        · exact jc_Law_law_1671 N xs L hX hbl hbA (Law_law_18 N xs L n) ih l1 l2 l3 h59
        · refine j_iconst (v := 0) d_Law_law_447 (by decide) ?_
          exact j_retLaw d_Law_law_448
      · refine j_aload_n d_Law_law_449 1 rfl rfl ?_
        refine j_aload_nA d_Law_law_450 0 rfl rfl ?_
        refine j_iload_n d_Law_law_451 3 rfl rfl ?_
        refine j_iconst (v := 1) d_Law_law_452 (by decide) ?_
        refine j_iadd d_Law_law_453 ?_
        refine j_sld hX hbl hbA d_Law_law_454 (fun x61 => ?_)
        refine j_aload_nA d_Law_law_455 0 rfl rfl ?_
        refine j_iload_n d_Law_law_456 3 rfl rfl ?_
        refine j_iconst (v := 2) d_Law_law_457 (by decide) ?_
        refine j_iadd d_Law_law_458 ?_
        refine j_sld hX hbl hbA d_Law_law_459 (fun x62 => ?_)
        refine j_vI2 d_Law_law_460 (allQ.cons (VD.mk vt_L_45_11 (ct_C_part N l D dA B l1 x61 x62 h) (by decide) (by decide)) allQ.nil) (Nat.le_of_ble_eq_true rfl) (fun x64 h63 => ?_)
        refine j_aload_n d_Law_law_463 2 rfl rfl ?_
        refine j_aload_nA d_Law_law_464 0 rfl rfl ?_
        refine j_iload_n d_Law_law_465 3 rfl rfl ?_
        refine j_iconst (v := 1) d_Law_law_466 (by decide) ?_
        refine j_iadd d_Law_law_467 ?_
        refine j_sld hX hbl hbA d_Law_law_468 (fun x65 => ?_)
        refine j_aload_nA d_Law_law_469 0 rfl rfl ?_
        refine j_iload_n d_Law_law_470 3 rfl rfl ?_
        refine j_iconst (v := 2) d_Law_law_471 (by decide) ?_
        refine j_iadd d_Law_law_472 ?_
        refine j_sld hX hbl hbA d_Law_law_473 (fun x66 => ?_)
        refine j_vI2 d_Law_law_474 (allQ.cons (VD.mk vt_L_48_12 (ct_M_part N l D dA B l2 x65 x66 h63) (by decide) (by decide)) allQ.nil) (Nat.le_of_ble_eq_true rfl) (fun x68 h67 => ?_)
        refine j_icmp_eq (tgt := 1671) d_Law_law_477 (by decide) ?_ ?_
        · exact jc_Law_law_1671 N xs L hX hbl hbA (Law_law_18 N xs L n) ih l1 l2 l3 h67
        · refine j_iconst (v := 0) d_Law_law_480 (by decide) ?_
          exact j_retLaw d_Law_law_481
      · refine j_aload_n d_Law_law_482 1 rfl rfl ?_
        refine j_aload_nA d_Law_law_483 0 rfl rfl ?_
        refine j_iload_n d_Law_law_484 3 rfl rfl ?_
        refine j_iconst (v := 1) d_Law_law_485 (by decide) ?_
        refine j_iadd d_Law_law_486 ?_
        refine j_sld hX hbl hbA d_Law_law_487 (fun x69 => ?_)
        refine j_aload_nA d_Law_law_488 0 rfl rfl ?_
        refine j_iload_n d_Law_law_489 3 rfl rfl ?_
        refine j_iconst (v := 2) d_Law_law_490 (by decide) ?_
        refine j_iadd d_Law_law_491 ?_
        refine j_sld hX hbl hbA d_Law_law_492 (fun x70 => ?_)
        refine j_aload_nA d_Law_law_493 0 rfl rfl ?_
        refine j_iload_n d_Law_law_494 3 rfl rfl ?_
        refine j_iconst (v := 3) d_Law_law_495 (by decide) ?_
        refine j_iadd d_Law_law_496 ?_
        refine j_sld hX hbl hbA d_Law_law_497 (fun x71 => ?_)
        refine j_aload_nA d_Law_law_498 0 rfl rfl ?_
        refine j_iload_n d_Law_law_499 3 rfl rfl ?_
        refine j_iconst (v := 4) d_Law_law_500 (by decide) ?_
        refine j_iadd d_Law_law_501 ?_
        refine j_sld hX hbl hbA d_Law_law_502 (fun x72 => ?_)
        refine j_vI4 d_Law_law_503 (allQ.cons (VD.mk vt_L_49_11 (ct_C_lead N l D dA B l1 x69 x70 x71 x72 h) (by decide) (by decide)) allQ.nil) (Nat.le_of_ble_eq_true rfl) (fun x74 h73 => ?_)
        refine j_aload_n d_Law_law_506 2 rfl rfl ?_
        refine j_aload_nA d_Law_law_507 0 rfl rfl ?_
        refine j_iload_n d_Law_law_508 3 rfl rfl ?_
        refine j_iconst (v := 1) d_Law_law_509 (by decide) ?_
        refine j_iadd d_Law_law_510 ?_
        refine j_sld hX hbl hbA d_Law_law_511 (fun x75 => ?_)
        refine j_aload_nA d_Law_law_512 0 rfl rfl ?_
        refine j_iload_n d_Law_law_513 3 rfl rfl ?_
        refine j_iconst (v := 2) d_Law_law_514 (by decide) ?_
        refine j_iadd d_Law_law_515 ?_
        refine j_sld hX hbl hbA d_Law_law_516 (fun x76 => ?_)
        refine j_aload_nA d_Law_law_517 0 rfl rfl ?_
        refine j_iload_n d_Law_law_518 3 rfl rfl ?_
        refine j_iconst (v := 3) d_Law_law_519 (by decide) ?_
        refine j_iadd d_Law_law_520 ?_
        refine j_sld hX hbl hbA d_Law_law_521 (fun x77 => ?_)
        refine j_aload_nA d_Law_law_522 0 rfl rfl ?_
        refine j_iload_n d_Law_law_523 3 rfl rfl ?_
        refine j_iconst (v := 4) d_Law_law_524 (by decide) ?_
        refine j_iadd d_Law_law_525 ?_
        refine j_sld hX hbl hbA d_Law_law_526 (fun x78 => ?_)
        refine j_vI4 d_Law_law_527 (allQ.cons (VD.mk vt_L_52_12 (ct_M_lead N l D dA B l2 x75 x76 x77 x78 h73) (by decide) (by decide)) allQ.nil) (Nat.le_of_ble_eq_true rfl) (fun x80 h79 => ?_)
        refine j_icmp_eq (tgt := 1671) d_Law_law_530 (by decide) ?_ ?_
        · exact jc_Law_law_1671 N xs L hX hbl hbA (Law_law_18 N xs L n) ih l1 l2 l3 h79
        · refine j_iconst (v := 0) d_Law_law_533 (by decide) ?_
          exact j_retLaw d_Law_law_534
      · refine j_aload_n d_Law_law_535 1 rfl rfl ?_
        refine j_aload_nA d_Law_law_536 0 rfl rfl ?_
        refine j_iload_n d_Law_law_537 3 rfl rfl ?_
        refine j_iconst (v := 1) d_Law_law_538 (by decide) ?_
        refine j_iadd d_Law_law_539 ?_
        refine j_sld hX hbl hbA d_Law_law_540 (fun x81 => ?_)
        refine j_vI1 d_Law_law_541 (allQ.cons (VD.mk vt_L_53_11 (ct_C_judge N l D dA B l1 x81 h) (by decide) (by decide)) allQ.nil) (Nat.le_of_ble_eq_true rfl) (fun x83 h82 => ?_)
        refine j_aload_n d_Law_law_544 2 rfl rfl ?_
        refine j_aload_nA d_Law_law_545 0 rfl rfl ?_
        refine j_iload_n d_Law_law_546 3 rfl rfl ?_
        refine j_iconst (v := 1) d_Law_law_547 (by decide) ?_
        refine j_iadd d_Law_law_548 ?_
        refine j_sld hX hbl hbA d_Law_law_549 (fun x84 => ?_)
        refine j_vI1 d_Law_law_550 (allQ.cons (VD.mk vt_L_56_12 (ct_M_judge N l D dA B l2 x84 h82) (by decide) (by decide)) allQ.nil) (Nat.le_of_ble_eq_true rfl) (fun x86 h85 => ?_)
        refine j_icmp_eq (tgt := 1671) d_Law_law_553 (by decide) ?_ ?_
        · exact jc_Law_law_1671 N xs L hX hbl hbA (Law_law_18 N xs L n) ih l1 l2 l3 h85
        · refine j_iconst (v := 0) d_Law_law_556 (by decide) ?_
          exact j_retLaw d_Law_law_557
      · refine j_aload_n d_Law_law_558 1 rfl rfl ?_
        refine j_aload_nA d_Law_law_559 0 rfl rfl ?_
        refine j_iload_n d_Law_law_560 3 rfl rfl ?_
        refine j_iconst (v := 1) d_Law_law_561 (by decide) ?_
        refine j_iadd d_Law_law_562 ?_
        refine j_sld hX hbl hbA d_Law_law_563 (fun x87 => ?_)
        refine j_aload_nA d_Law_law_564 0 rfl rfl ?_
        refine j_iload_n d_Law_law_565 3 rfl rfl ?_
        refine j_iconst (v := 2) d_Law_law_566 (by decide) ?_
        refine j_iadd d_Law_law_567 ?_
        refine j_sld hX hbl hbA d_Law_law_568 (fun x88 => ?_)
        refine j_vL2 d_Law_law_569 (allQ.cons (VD.mk vt_L_57_11 (ct_C_leadHead N l D dA B l1 x87 x88 h) (by decide) (by decide)) allQ.nil) (Nat.le_of_ble_eq_true rfl) (fun x90 h89 => ?_)
        refine j_aload_n d_Law_law_572 2 rfl rfl ?_
        refine j_aload_nA d_Law_law_573 0 rfl rfl ?_
        refine j_iload_n d_Law_law_574 3 rfl rfl ?_
        refine j_iconst (v := 1) d_Law_law_575 (by decide) ?_
        refine j_iadd d_Law_law_576 ?_
        refine j_sld hX hbl hbA d_Law_law_577 (fun x91 => ?_)
        refine j_aload_nA d_Law_law_578 0 rfl rfl ?_
        refine j_iload_n d_Law_law_579 3 rfl rfl ?_
        refine j_iconst (v := 2) d_Law_law_580 (by decide) ?_
        refine j_iadd d_Law_law_581 ?_
        refine j_sld hX hbl hbA d_Law_law_582 (fun x92 => ?_)
        refine j_vL2 d_Law_law_583 (allQ.cons (VD.mk vt_L_61_12 (ct_M_leadHead N l D dA B l2 x91 x92 h89) (by decide) (by decide)) allQ.nil) (Nat.le_of_ble_eq_true rfl) (fun x94 h93 => ?_)
        refine j_lcmp d_Law_law_586 ?_
        refine j_if_eq (tgt := 1671) d_Law_law_587 (by decide) ?_ ?_
        · exact jc_Law_law_1671 N xs L hX hbl hbA (Law_law_18 N xs L n) ih l1 l2 l3 h93
        · refine j_iconst (v := 0) d_Law_law_590 (by decide) ?_
          exact j_retLaw d_Law_law_591
      · refine j_aload_n d_Law_law_592 1 rfl rfl ?_
        refine j_aload_nA d_Law_law_593 0 rfl rfl ?_
        refine j_iload_n d_Law_law_594 3 rfl rfl ?_
        refine j_iconst (v := 1) d_Law_law_595 (by decide) ?_
        refine j_iadd d_Law_law_596 ?_
        refine j_sld hX hbl hbA d_Law_law_597 (fun x95 => ?_)
        refine j_vI1 d_Law_law_598 (allQ.cons (VD.mk vt_L_62_11 (ct_C_course N l D dA B l1 x95 h) (by decide) (by decide)) allQ.nil) (Nat.le_of_ble_eq_true rfl) (fun x97 h96 => ?_)
        refine j_aload_n d_Law_law_601 2 rfl rfl ?_
        refine j_aload_nA d_Law_law_602 0 rfl rfl ?_
        refine j_iload_n d_Law_law_603 3 rfl rfl ?_
        refine j_iconst (v := 1) d_Law_law_604 (by decide) ?_
        refine j_iadd d_Law_law_605 ?_
        refine j_sld hX hbl hbA d_Law_law_606 (fun x98 => ?_)
        refine j_vI1 d_Law_law_607 (allQ.cons (VD.mk vt_L_65_12 (ct_M_course N l D dA B l2 x98 h96) (by decide) (by decide)) allQ.nil) (Nat.le_of_ble_eq_true rfl) (fun x100 h99 => ?_)
        refine j_icmp_eq (tgt := 1671) d_Law_law_610 (by decide) ?_ ?_
        · exact jc_Law_law_1671 N xs L hX hbl hbA (Law_law_18 N xs L n) ih l1 l2 l3 h99
        · refine j_iconst (v := 0) d_Law_law_613 (by decide) ?_
          exact j_retLaw d_Law_law_614
      · refine j_aload_n d_Law_law_615 1 rfl rfl ?_
        refine j_aload_nA d_Law_law_616 0 rfl rfl ?_
        refine j_iload_n d_Law_law_617 3 rfl rfl ?_
        refine j_iconst (v := 1) d_Law_law_618 (by decide) ?_
        refine j_iadd d_Law_law_619 ?_
        refine j_sld hX hbl hbA d_Law_law_620 (fun x101 => ?_)
        refine j_aload_nA d_Law_law_621 0 rfl rfl ?_
        refine j_iload_n d_Law_law_622 3 rfl rfl ?_
        refine j_iconst (v := 2) d_Law_law_623 (by decide) ?_
        refine j_iadd d_Law_law_624 ?_
        refine j_sld hX hbl hbA d_Law_law_625 (fun x102 => ?_)
        refine j_i2l d_Law_law_626 ?_
        refine j_bipush (v := 32) d_Law_law_627 (by decide) ?_
        refine j_lshl d_Law_law_629 ?_
        refine j_aload_nA d_Law_law_630 0 rfl rfl ?_
        refine j_iload_n d_Law_law_631 3 rfl rfl ?_
        refine j_iconst (v := 3) d_Law_law_632 (by decide) ?_
        refine j_iadd d_Law_law_633 ?_
        refine j_sld hX hbl hbA d_Law_law_634 (fun x103 => ?_)
        refine j_i2l d_Law_law_635 ?_
        refine j_ldc2 d_Law_law_636 ckl_L_66 ?_
        refine j_land d_Law_law_639 ?_
        refine j_lor d_Law_law_640 ?_
        refine j_vI2 d_Law_law_641 (allQ.cons (VD.mk vt_L_68_11 (ct_C_falseness N l D dA B l1 x101 (((Int32.toInt64 x102) <<< (Int32.toInt64 (32 : Int32) &&& 63)) ||| ((Int32.toInt64 x103) &&& (4294967295 : Int64))) h) (by decide) (by decide)) allQ.nil) (Nat.le_of_ble_eq_true rfl) (fun x105 h104 => ?_)
        refine j_aload_n d_Law_law_644 2 rfl rfl ?_
        refine j_aload_nA d_Law_law_645 0 rfl rfl ?_
        refine j_iload_n d_Law_law_646 3 rfl rfl ?_
        refine j_iconst (v := 1) d_Law_law_647 (by decide) ?_
        refine j_iadd d_Law_law_648 ?_
        refine j_sld hX hbl hbA d_Law_law_649 (fun x106 => ?_)
        refine j_aload_nA d_Law_law_650 0 rfl rfl ?_
        refine j_iload_n d_Law_law_651 3 rfl rfl ?_
        refine j_iconst (v := 2) d_Law_law_652 (by decide) ?_
        refine j_iadd d_Law_law_653 ?_
        refine j_sld hX hbl hbA d_Law_law_654 (fun x107 => ?_)
        refine j_i2l d_Law_law_655 ?_
        refine j_bipush (v := 32) d_Law_law_656 (by decide) ?_
        refine j_lshl d_Law_law_658 ?_
        refine j_aload_nA d_Law_law_659 0 rfl rfl ?_
        refine j_iload_n d_Law_law_660 3 rfl rfl ?_
        refine j_iconst (v := 3) d_Law_law_661 (by decide) ?_
        refine j_iadd d_Law_law_662 ?_
        refine j_sld hX hbl hbA d_Law_law_663 (fun x108 => ?_)
        refine j_i2l d_Law_law_664 ?_
        refine j_ldc2 d_Law_law_665 ckl_L_66 ?_
        refine j_land d_Law_law_668 ?_
        refine j_lor d_Law_law_669 ?_
        refine j_vI2 d_Law_law_670 (allQ.cons (VD.mk vt_L_72_12 (ct_M_falseness N l D dA B l2 x106 (((Int32.toInt64 x107) <<< (Int32.toInt64 (32 : Int32) &&& 63)) ||| ((Int32.toInt64 x108) &&& (4294967295 : Int64))) h104) (by decide) (by decide)) allQ.nil) (Nat.le_of_ble_eq_true rfl) (fun x110 h109 => ?_)
        refine j_icmp_eq (tgt := 1671) d_Law_law_673 (by decide) ?_ ?_
        · exact jc_Law_law_1671 N xs L hX hbl hbA (Law_law_18 N xs L n) ih l1 l2 l3 h109
        · refine j_iconst (v := 0) d_Law_law_676 (by decide) ?_
          exact j_retLaw d_Law_law_677
      · refine j_aload_n d_Law_law_678 1 rfl rfl ?_
        refine j_aload_nA d_Law_law_679 0 rfl rfl ?_
        refine j_iload_n d_Law_law_680 3 rfl rfl ?_
        refine j_iconst (v := 1) d_Law_law_681 (by decide) ?_
        refine j_iadd d_Law_law_682 ?_
        refine j_sld hX hbl hbA d_Law_law_683 (fun x111 => ?_)
        refine j_aload_nA d_Law_law_684 0 rfl rfl ?_
        refine j_iload_n d_Law_law_685 3 rfl rfl ?_
        refine j_iconst (v := 2) d_Law_law_686 (by decide) ?_
        refine j_iadd d_Law_law_687 ?_
        refine j_sld hX hbl hbA d_Law_law_688 (fun x112 => ?_)
        refine j_vI2 d_Law_law_689 (allQ.cons (VD.mk vt_L_73_11 (ct_C_trace N l D dA B l1 x111 x112 h) (by decide) (by decide)) allQ.nil) (Nat.le_of_ble_eq_true rfl) (fun x114 h113 => ?_)
        refine j_aload_n d_Law_law_692 2 rfl rfl ?_
        refine j_aload_nA d_Law_law_693 0 rfl rfl ?_
        refine j_iload_n d_Law_law_694 3 rfl rfl ?_
        refine j_iconst (v := 1) d_Law_law_695 (by decide) ?_
        refine j_iadd d_Law_law_696 ?_
        refine j_sld hX hbl hbA d_Law_law_697 (fun x115 => ?_)
        refine j_aload_nA d_Law_law_698 0 rfl rfl ?_
        refine j_iload_n d_Law_law_699 3 rfl rfl ?_
        refine j_iconst (v := 2) d_Law_law_700 (by decide) ?_
        refine j_iadd d_Law_law_701 ?_
        refine j_sld hX hbl hbA d_Law_law_702 (fun x116 => ?_)
        refine j_vI2 d_Law_law_703 (allQ.cons (VD.mk vt_L_76_12 (ct_M_trace N l D dA B l2 x115 x116 h113) (by decide) (by decide)) allQ.nil) (Nat.le_of_ble_eq_true rfl) (fun x118 h117 => ?_)
        refine j_icmp_eq (tgt := 1671) d_Law_law_706 (by decide) ?_ ?_
        · exact jc_Law_law_1671 N xs L hX hbl hbA (Law_law_18 N xs L n) ih l1 l2 l3 h117
        · refine j_iconst (v := 0) d_Law_law_709 (by decide) ?_
          exact j_retLaw d_Law_law_710
      · refine j_aload_n d_Law_law_711 1 rfl rfl ?_
        refine j_aload_nA d_Law_law_712 0 rfl rfl ?_
        refine j_iload_n d_Law_law_713 3 rfl rfl ?_
        refine j_iconst (v := 1) d_Law_law_714 (by decide) ?_
        refine j_iadd d_Law_law_715 ?_
        refine j_sld hX hbl hbA d_Law_law_716 (fun x119 => ?_)
        refine j_i2l d_Law_law_717 ?_
        refine j_bipush (v := 32) d_Law_law_718 (by decide) ?_
        refine j_lshl d_Law_law_720 ?_
        refine j_aload_nA d_Law_law_721 0 rfl rfl ?_
        refine j_iload_n d_Law_law_722 3 rfl rfl ?_
        refine j_iconst (v := 2) d_Law_law_723 (by decide) ?_
        refine j_iadd d_Law_law_724 ?_
        refine j_sld hX hbl hbA d_Law_law_725 (fun x120 => ?_)
        refine j_i2l d_Law_law_726 ?_
        refine j_ldc2 d_Law_law_727 ckl_L_66 ?_
        refine j_land d_Law_law_730 ?_
        refine j_lor d_Law_law_731 ?_
        refine j_aload_nA d_Law_law_732 0 rfl rfl ?_
        refine j_iload_n d_Law_law_733 3 rfl rfl ?_
        refine j_iconst (v := 3) d_Law_law_734 (by decide) ?_
        refine j_iadd d_Law_law_735 ?_
        refine j_sld hX hbl hbA d_Law_law_736 (fun x121 => ?_)
        refine j_vL2 d_Law_law_737 (allQ.cons (VD.mk vt_L_77_11 (ct_C_change N l D dA B l1 (((Int32.toInt64 x119) <<< (Int32.toInt64 (32 : Int32) &&& 63)) ||| ((Int32.toInt64 x120) &&& (4294967295 : Int64))) x121 h) (by decide) (by decide)) allQ.nil) (Nat.le_of_ble_eq_true rfl) (fun x123 h122 => ?_)
        refine j_aload_n d_Law_law_740 2 rfl rfl ?_
        refine j_aload_nA d_Law_law_741 0 rfl rfl ?_
        refine j_iload_n d_Law_law_742 3 rfl rfl ?_
        refine j_iconst (v := 1) d_Law_law_743 (by decide) ?_
        refine j_iadd d_Law_law_744 ?_
        refine j_sld hX hbl hbA d_Law_law_745 (fun x124 => ?_)
        refine j_i2l d_Law_law_746 ?_
        refine j_bipush (v := 32) d_Law_law_747 (by decide) ?_
        refine j_lshl d_Law_law_749 ?_
        refine j_aload_nA d_Law_law_750 0 rfl rfl ?_
        refine j_iload_n d_Law_law_751 3 rfl rfl ?_
        refine j_iconst (v := 2) d_Law_law_752 (by decide) ?_
        refine j_iadd d_Law_law_753 ?_
        refine j_sld hX hbl hbA d_Law_law_754 (fun x125 => ?_)
        refine j_i2l d_Law_law_755 ?_
        refine j_ldc2 d_Law_law_756 ckl_L_66 ?_
        refine j_land d_Law_law_759 ?_
        refine j_lor d_Law_law_760 ?_
        refine j_aload_nA d_Law_law_761 0 rfl rfl ?_
        refine j_iload_n d_Law_law_762 3 rfl rfl ?_
        refine j_iconst (v := 3) d_Law_law_763 (by decide) ?_
        refine j_iadd d_Law_law_764 ?_
        refine j_sld hX hbl hbA d_Law_law_765 (fun x126 => ?_)
        refine j_vL2 d_Law_law_766 (allQ.cons (VD.mk vt_L_81_12 (ct_M_change N l D dA B l2 (((Int32.toInt64 x124) <<< (Int32.toInt64 (32 : Int32) &&& 63)) ||| ((Int32.toInt64 x125) &&& (4294967295 : Int64))) x126 h122) (by decide) (by decide)) allQ.nil) (Nat.le_of_ble_eq_true rfl) (fun x128 h127 => ?_)
        refine j_lcmp d_Law_law_769 ?_
        refine j_if_eq (tgt := 1671) d_Law_law_770 (by decide) ?_ ?_
        · exact jc_Law_law_1671 N xs L hX hbl hbA (Law_law_18 N xs L n) ih l1 l2 l3 h127
        · refine j_iconst (v := 0) d_Law_law_773 (by decide) ?_
          exact j_retLaw d_Law_law_774
      · refine j_aload_n d_Law_law_775 1 rfl rfl ?_
        refine j_aload_nA d_Law_law_776 0 rfl rfl ?_
        refine j_iload_n d_Law_law_777 3 rfl rfl ?_
        refine j_iconst (v := 1) d_Law_law_778 (by decide) ?_
        refine j_iadd d_Law_law_779 ?_
        refine j_sld hX hbl hbA d_Law_law_780 (fun x129 => ?_)
        refine j_i2l d_Law_law_781 ?_
        refine j_bipush (v := 32) d_Law_law_782 (by decide) ?_
        refine j_lshl d_Law_law_784 ?_
        refine j_aload_nA d_Law_law_785 0 rfl rfl ?_
        refine j_iload_n d_Law_law_786 3 rfl rfl ?_
        refine j_iconst (v := 2) d_Law_law_787 (by decide) ?_
        refine j_iadd d_Law_law_788 ?_
        refine j_sld hX hbl hbA d_Law_law_789 (fun x130 => ?_)
        refine j_i2l d_Law_law_790 ?_
        refine j_ldc2 d_Law_law_791 ckl_L_66 ?_
        refine j_land d_Law_law_794 ?_
        refine j_lor d_Law_law_795 ?_
        refine j_vI1 d_Law_law_796 (allQ.cons (VD.mk vt_L_82_11 (ct_C_number N l D dA B l1 (((Int32.toInt64 x129) <<< (Int32.toInt64 (32 : Int32) &&& 63)) ||| ((Int32.toInt64 x130) &&& (4294967295 : Int64))) h) (by decide) (by decide)) allQ.nil) (Nat.le_of_ble_eq_true rfl) (fun x132 h131 => ?_)
        refine j_aload_n d_Law_law_799 2 rfl rfl ?_
        refine j_aload_nA d_Law_law_800 0 rfl rfl ?_
        refine j_iload_n d_Law_law_801 3 rfl rfl ?_
        refine j_iconst (v := 1) d_Law_law_802 (by decide) ?_
        refine j_iadd d_Law_law_803 ?_
        refine j_sld hX hbl hbA d_Law_law_804 (fun x133 => ?_)
        refine j_i2l d_Law_law_805 ?_
        refine j_bipush (v := 32) d_Law_law_806 (by decide) ?_
        refine j_lshl d_Law_law_808 ?_
        refine j_aload_nA d_Law_law_809 0 rfl rfl ?_
        refine j_iload_n d_Law_law_810 3 rfl rfl ?_
        refine j_iconst (v := 2) d_Law_law_811 (by decide) ?_
        refine j_iadd d_Law_law_812 ?_
        refine j_sld hX hbl hbA d_Law_law_813 (fun x134 => ?_)
        refine j_i2l d_Law_law_814 ?_
        refine j_ldc2 d_Law_law_815 ckl_L_66 ?_
        refine j_land d_Law_law_818 ?_
        refine j_lor d_Law_law_819 ?_
        refine j_vI1 d_Law_law_820 (allQ.cons (VD.mk vt_L_86_12 (ct_M_number N l D dA B l2 (((Int32.toInt64 x133) <<< (Int32.toInt64 (32 : Int32) &&& 63)) ||| ((Int32.toInt64 x134) &&& (4294967295 : Int64))) h131) (by decide) (by decide)) allQ.nil) (Nat.le_of_ble_eq_true rfl) (fun x136 h135 => ?_)
        refine j_icmp_eq (tgt := 1671) d_Law_law_823 (by decide) ?_ ?_
        · exact jc_Law_law_1671 N xs L hX hbl hbA (Law_law_18 N xs L n) ih l1 l2 l3 h135
        · refine j_iconst (v := 0) d_Law_law_826 (by decide) ?_
          exact j_retLaw d_Law_law_827
      · refine j_aload_n d_Law_law_828 1 rfl rfl ?_
        refine j_aload_nA d_Law_law_829 0 rfl rfl ?_
        refine j_iload_n d_Law_law_830 3 rfl rfl ?_
        refine j_iconst (v := 1) d_Law_law_831 (by decide) ?_
        refine j_iadd d_Law_law_832 ?_
        refine j_sld hX hbl hbA d_Law_law_833 (fun x137 => ?_)
        refine j_vL1 d_Law_law_834 (allQ.cons (VD.mk vt_L_87_11 (ct_C_ofNumber N l D dA B l1 x137 h) (by decide) (by decide)) allQ.nil) (Nat.le_of_ble_eq_true rfl) (fun x139 h138 => ?_)
        refine j_aload_n d_Law_law_837 2 rfl rfl ?_
        refine j_aload_nA d_Law_law_838 0 rfl rfl ?_
        refine j_iload_n d_Law_law_839 3 rfl rfl ?_
        refine j_iconst (v := 1) d_Law_law_840 (by decide) ?_
        refine j_iadd d_Law_law_841 ?_
        refine j_sld hX hbl hbA d_Law_law_842 (fun x140 => ?_)
        refine j_vL1 d_Law_law_843 (allQ.cons (VD.mk vt_L_91_12 (ct_M_ofNumber N l D dA B l2 x140 h138) (by decide) (by decide)) allQ.nil) (Nat.le_of_ble_eq_true rfl) (fun x142 h141 => ?_)
        refine j_lcmp d_Law_law_846 ?_
        refine j_if_eq (tgt := 1671) d_Law_law_847 (by decide) ?_ ?_
        · exact jc_Law_law_1671 N xs L hX hbl hbA (Law_law_18 N xs L n) ih l1 l2 l3 h141
        · refine j_iconst (v := 0) d_Law_law_850 (by decide) ?_
          exact j_retLaw d_Law_law_851
      · refine j_aload_n d_Law_law_852 1 rfl rfl ?_
        refine j_aload_nA d_Law_law_853 0 rfl rfl ?_
        refine j_iload_n d_Law_law_854 3 rfl rfl ?_
        refine j_iconst (v := 1) d_Law_law_855 (by decide) ?_
        refine j_iadd d_Law_law_856 ?_
        refine j_sld hX hbl hbA d_Law_law_857 (fun x143 => ?_)
        refine j_i2l d_Law_law_858 ?_
        refine j_bipush (v := 32) d_Law_law_859 (by decide) ?_
        refine j_lshl d_Law_law_861 ?_
        refine j_aload_nA d_Law_law_862 0 rfl rfl ?_
        refine j_iload_n d_Law_law_863 3 rfl rfl ?_
        refine j_iconst (v := 2) d_Law_law_864 (by decide) ?_
        refine j_iadd d_Law_law_865 ?_
        refine j_sld hX hbl hbA d_Law_law_866 (fun x144 => ?_)
        refine j_i2l d_Law_law_867 ?_
        refine j_ldc2 d_Law_law_868 ckl_L_66 ?_
        refine j_land d_Law_law_871 ?_
        refine j_lor d_Law_law_872 ?_
        refine j_aload_nA d_Law_law_873 0 rfl rfl ?_
        refine j_iload_n d_Law_law_874 3 rfl rfl ?_
        refine j_iconst (v := 3) d_Law_law_875 (by decide) ?_
        refine j_iadd d_Law_law_876 ?_
        refine j_sld hX hbl hbA d_Law_law_877 (fun x145 => ?_)
        refine j_i2l d_Law_law_878 ?_
        refine j_bipush (v := 32) d_Law_law_879 (by decide) ?_
        refine j_lshl d_Law_law_881 ?_
        refine j_aload_nA d_Law_law_882 0 rfl rfl ?_
        refine j_iload_n d_Law_law_883 3 rfl rfl ?_
        refine j_iconst (v := 4) d_Law_law_884 (by decide) ?_
        refine j_iadd d_Law_law_885 ?_
        refine j_sld hX hbl hbA d_Law_law_886 (fun x146 => ?_)
        refine j_i2l d_Law_law_887 ?_
        refine j_ldc2 d_Law_law_888 ckl_L_66 ?_
        refine j_land d_Law_law_891 ?_
        refine j_lor d_Law_law_892 ?_
        refine j_vL2 d_Law_law_893 (allQ.cons (VD.mk vt_L_92_11 (ct_C_product N l D dA B l1 (((Int32.toInt64 x143) <<< (Int32.toInt64 (32 : Int32) &&& 63)) ||| ((Int32.toInt64 x144) &&& (4294967295 : Int64))) (((Int32.toInt64 x145) <<< (Int32.toInt64 (32 : Int32) &&& 63)) ||| ((Int32.toInt64 x146) &&& (4294967295 : Int64))) h) (by decide) (by decide)) allQ.nil) (Nat.le_of_ble_eq_true rfl) (fun x148 h147 => ?_)
        refine j_aload_n d_Law_law_896 2 rfl rfl ?_
        refine j_aload_nA d_Law_law_897 0 rfl rfl ?_
        refine j_iload_n d_Law_law_898 3 rfl rfl ?_
        refine j_iconst (v := 1) d_Law_law_899 (by decide) ?_
        refine j_iadd d_Law_law_900 ?_
        refine j_sld hX hbl hbA d_Law_law_901 (fun x149 => ?_)
        refine j_i2l d_Law_law_902 ?_
        refine j_bipush (v := 32) d_Law_law_903 (by decide) ?_
        refine j_lshl d_Law_law_905 ?_
        refine j_aload_nA d_Law_law_906 0 rfl rfl ?_
        refine j_iload_n d_Law_law_907 3 rfl rfl ?_
        refine j_iconst (v := 2) d_Law_law_908 (by decide) ?_
        refine j_iadd d_Law_law_909 ?_
        refine j_sld hX hbl hbA d_Law_law_910 (fun x150 => ?_)
        refine j_i2l d_Law_law_911 ?_
        refine j_ldc2 d_Law_law_912 ckl_L_66 ?_
        refine j_land d_Law_law_915 ?_
        refine j_lor d_Law_law_916 ?_
        refine j_aload_nA d_Law_law_917 0 rfl rfl ?_
        refine j_iload_n d_Law_law_918 3 rfl rfl ?_
        refine j_iconst (v := 3) d_Law_law_919 (by decide) ?_
        refine j_iadd d_Law_law_920 ?_
        refine j_sld hX hbl hbA d_Law_law_921 (fun x151 => ?_)
        refine j_i2l d_Law_law_922 ?_
        refine j_bipush (v := 32) d_Law_law_923 (by decide) ?_
        refine j_lshl d_Law_law_925 ?_
        refine j_aload_nA d_Law_law_926 0 rfl rfl ?_
        refine j_iload_n d_Law_law_927 3 rfl rfl ?_
        refine j_iconst (v := 4) d_Law_law_928 (by decide) ?_
        refine j_iadd d_Law_law_929 ?_
        refine j_sld hX hbl hbA d_Law_law_930 (fun x152 => ?_)
        refine j_i2l d_Law_law_931 ?_
        refine j_ldc2 d_Law_law_932 ckl_L_66 ?_
        refine j_land d_Law_law_935 ?_
        refine j_lor d_Law_law_936 ?_
        refine j_vL2 d_Law_law_937 (allQ.cons (VD.mk vt_L_96_12 (ct_M_product N l D dA B l2 (((Int32.toInt64 x149) <<< (Int32.toInt64 (32 : Int32) &&& 63)) ||| ((Int32.toInt64 x150) &&& (4294967295 : Int64))) (((Int32.toInt64 x151) <<< (Int32.toInt64 (32 : Int32) &&& 63)) ||| ((Int32.toInt64 x152) &&& (4294967295 : Int64))) h147) (by decide) (by decide)) allQ.nil) (Nat.le_of_ble_eq_true rfl) (fun x154 h153 => ?_)
        refine j_lcmp d_Law_law_940 ?_
        refine j_if_eq (tgt := 1671) d_Law_law_941 (by decide) ?_ ?_
        · exact jc_Law_law_1671 N xs L hX hbl hbA (Law_law_18 N xs L n) ih l1 l2 l3 h153
        · refine j_iconst (v := 0) d_Law_law_944 (by decide) ?_
          exact j_retLaw d_Law_law_945
      · refine j_aload_n d_Law_law_946 1 rfl rfl ?_
        refine j_aload_nA d_Law_law_947 0 rfl rfl ?_
        refine j_iload_n d_Law_law_948 3 rfl rfl ?_
        refine j_iconst (v := 1) d_Law_law_949 (by decide) ?_
        refine j_iadd d_Law_law_950 ?_
        refine j_sld hX hbl hbA d_Law_law_951 (fun x155 => ?_)
        refine j_i2l d_Law_law_952 ?_
        refine j_bipush (v := 32) d_Law_law_953 (by decide) ?_
        refine j_lshl d_Law_law_955 ?_
        refine j_aload_nA d_Law_law_956 0 rfl rfl ?_
        refine j_iload_n d_Law_law_957 3 rfl rfl ?_
        refine j_iconst (v := 2) d_Law_law_958 (by decide) ?_
        refine j_iadd d_Law_law_959 ?_
        refine j_sld hX hbl hbA d_Law_law_960 (fun x156 => ?_)
        refine j_i2l d_Law_law_961 ?_
        refine j_ldc2 d_Law_law_962 ckl_L_66 ?_
        refine j_land d_Law_law_965 ?_
        refine j_lor d_Law_law_966 ?_
        refine j_vL1 d_Law_law_967 (allQ.cons (VD.mk vt_L_97_11 (ct_C_inverse N l D dA B l1 (((Int32.toInt64 x155) <<< (Int32.toInt64 (32 : Int32) &&& 63)) ||| ((Int32.toInt64 x156) &&& (4294967295 : Int64))) h) (by decide) (by decide)) allQ.nil) (Nat.le_of_ble_eq_true rfl) (fun x158 h157 => ?_)
        refine j_aload_n d_Law_law_970 2 rfl rfl ?_
        refine j_aload_nA d_Law_law_971 0 rfl rfl ?_
        refine j_iload_n d_Law_law_972 3 rfl rfl ?_
        refine j_iconst (v := 1) d_Law_law_973 (by decide) ?_
        refine j_iadd d_Law_law_974 ?_
        refine j_sld hX hbl hbA d_Law_law_975 (fun x159 => ?_)
        refine j_i2l d_Law_law_976 ?_
        refine j_bipush (v := 32) d_Law_law_977 (by decide) ?_
        refine j_lshl d_Law_law_979 ?_
        refine j_aload_nA d_Law_law_980 0 rfl rfl ?_
        refine j_iload_n d_Law_law_981 3 rfl rfl ?_
        refine j_iconst (v := 2) d_Law_law_982 (by decide) ?_
        refine j_iadd d_Law_law_983 ?_
        refine j_sld hX hbl hbA d_Law_law_984 (fun x160 => ?_)
        refine j_i2l d_Law_law_985 ?_
        refine j_ldc2 d_Law_law_986 ckl_L_66 ?_
        refine j_land d_Law_law_989 ?_
        refine j_lor d_Law_law_990 ?_
        refine j_vL1 d_Law_law_991 (allQ.cons (VD.mk vt_L_101_12 (ct_M_inverse N l D dA B l2 (((Int32.toInt64 x159) <<< (Int32.toInt64 (32 : Int32) &&& 63)) ||| ((Int32.toInt64 x160) &&& (4294967295 : Int64))) h157) (by decide) (by decide)) allQ.nil) (Nat.le_of_ble_eq_true rfl) (fun x162 h161 => ?_)
        refine j_lcmp d_Law_law_994 ?_
        refine j_if_eq (tgt := 1671) d_Law_law_995 (by decide) ?_ ?_
        · exact jc_Law_law_1671 N xs L hX hbl hbA (Law_law_18 N xs L n) ih l1 l2 l3 h161
        · refine j_iconst (v := 0) d_Law_law_998 (by decide) ?_
          exact j_retLaw d_Law_law_999
      · refine j_aload_n d_Law_law_1000 1 rfl rfl ?_
        refine j_aload_nA d_Law_law_1001 0 rfl rfl ?_
        refine j_iload_n d_Law_law_1002 3 rfl rfl ?_
        refine j_iconst (v := 1) d_Law_law_1003 (by decide) ?_
        refine j_iadd d_Law_law_1004 ?_
        refine j_sld hX hbl hbA d_Law_law_1005 (fun x163 => ?_)
        refine j_i2l d_Law_law_1006 ?_
        refine j_bipush (v := 32) d_Law_law_1007 (by decide) ?_
        refine j_lshl d_Law_law_1009 ?_
        refine j_aload_nA d_Law_law_1010 0 rfl rfl ?_
        refine j_iload_n d_Law_law_1011 3 rfl rfl ?_
        refine j_iconst (v := 2) d_Law_law_1012 (by decide) ?_
        refine j_iadd d_Law_law_1013 ?_
        refine j_sld hX hbl hbA d_Law_law_1014 (fun x164 => ?_)
        refine j_i2l d_Law_law_1015 ?_
        refine j_ldc2 d_Law_law_1016 ckl_L_66 ?_
        refine j_land d_Law_law_1019 ?_
        refine j_lor d_Law_law_1020 ?_
        refine j_vI1 d_Law_law_1021 (allQ.cons (VD.mk vt_L_102_11 (ct_C_order N l D dA B l1 (((Int32.toInt64 x163) <<< (Int32.toInt64 (32 : Int32) &&& 63)) ||| ((Int32.toInt64 x164) &&& (4294967295 : Int64))) h) (by decide) (by decide)) allQ.nil) (Nat.le_of_ble_eq_true rfl) (fun x166 h165 => ?_)
        refine j_aload_n d_Law_law_1024 2 rfl rfl ?_
        refine j_aload_nA d_Law_law_1025 0 rfl rfl ?_
        refine j_iload_n d_Law_law_1026 3 rfl rfl ?_
        refine j_iconst (v := 1) d_Law_law_1027 (by decide) ?_
        refine j_iadd d_Law_law_1028 ?_
        refine j_sld hX hbl hbA d_Law_law_1029 (fun x167 => ?_)
        refine j_i2l d_Law_law_1030 ?_
        refine j_bipush (v := 32) d_Law_law_1031 (by decide) ?_
        refine j_lshl d_Law_law_1033 ?_
        refine j_aload_nA d_Law_law_1034 0 rfl rfl ?_
        refine j_iload_n d_Law_law_1035 3 rfl rfl ?_
        refine j_iconst (v := 2) d_Law_law_1036 (by decide) ?_
        refine j_iadd d_Law_law_1037 ?_
        refine j_sld hX hbl hbA d_Law_law_1038 (fun x168 => ?_)
        refine j_i2l d_Law_law_1039 ?_
        refine j_ldc2 d_Law_law_1040 ckl_L_66 ?_
        refine j_land d_Law_law_1043 ?_
        refine j_lor d_Law_law_1044 ?_
        refine j_vI1 d_Law_law_1045 (allQ.cons (VD.mk vt_L_105_12 (ct_M_order N l D dA B l2 (((Int32.toInt64 x167) <<< (Int32.toInt64 (32 : Int32) &&& 63)) ||| ((Int32.toInt64 x168) &&& (4294967295 : Int64))) h165) (by decide) (by decide)) allQ.nil) (Nat.le_of_ble_eq_true rfl) (fun x170 h169 => ?_)
        refine j_icmp_eq (tgt := 1671) d_Law_law_1048 (by decide) ?_ ?_
        · exact jc_Law_law_1671 N xs L hX hbl hbA (Law_law_18 N xs L n) ih l1 l2 l3 h169
        · refine j_iconst (v := 0) d_Law_law_1051 (by decide) ?_
          exact j_retLaw d_Law_law_1052
      · refine j_aload_n d_Law_law_1053 1 rfl rfl ?_
        refine j_aload_nA d_Law_law_1054 0 rfl rfl ?_
        refine j_iload_n d_Law_law_1055 3 rfl rfl ?_
        refine j_iconst (v := 1) d_Law_law_1056 (by decide) ?_
        refine j_iadd d_Law_law_1057 ?_
        refine j_sld hX hbl hbA d_Law_law_1058 (fun x171 => ?_)
        refine j_aload_nA d_Law_law_1059 0 rfl rfl ?_
        refine j_iload_n d_Law_law_1060 3 rfl rfl ?_
        refine j_iconst (v := 2) d_Law_law_1061 (by decide) ?_
        refine j_iadd d_Law_law_1062 ?_
        refine j_sld hX hbl hbA d_Law_law_1063 (fun x172 => ?_)
        refine j_vI2 d_Law_law_1064 (allQ.cons (VD.mk vt_L_106_11 (ct_C_touch N l D dA B l1 x171 x172 h) (by decide) (by decide)) allQ.nil) (Nat.le_of_ble_eq_true rfl) (fun x174 h173 => ?_)
        refine j_aload_n d_Law_law_1067 2 rfl rfl ?_
        refine j_aload_nA d_Law_law_1068 0 rfl rfl ?_
        refine j_iload_n d_Law_law_1069 3 rfl rfl ?_
        refine j_iconst (v := 1) d_Law_law_1070 (by decide) ?_
        refine j_iadd d_Law_law_1071 ?_
        refine j_sld hX hbl hbA d_Law_law_1072 (fun x175 => ?_)
        refine j_aload_nA d_Law_law_1073 0 rfl rfl ?_
        refine j_iload_n d_Law_law_1074 3 rfl rfl ?_
        refine j_iconst (v := 2) d_Law_law_1075 (by decide) ?_
        refine j_iadd d_Law_law_1076 ?_
        refine j_sld hX hbl hbA d_Law_law_1077 (fun x176 => ?_)
        refine j_vI2 d_Law_law_1078 (allQ.cons (VD.mk vt_L_109_12 (ct_M_touch N l D dA B l2 x175 x176 h173) (by decide) (by decide)) allQ.nil) (Nat.le_of_ble_eq_true rfl) (fun x178 h177 => ?_)
        refine j_icmp_eq (tgt := 1671) d_Law_law_1081 (by decide) ?_ ?_
        · exact jc_Law_law_1671 N xs L hX hbl hbA (Law_law_18 N xs L n) ih l1 l2 l3 h177
        · refine j_iconst (v := 0) d_Law_law_1084 (by decide) ?_
          exact j_retLaw d_Law_law_1085
      · refine j_aload_n d_Law_law_1086 1 rfl rfl ?_
        refine j_vI0 d_Law_law_1087 (allQ.cons (VD.mk vt_L_110_11 (ct_C_clear N l D dA B l1 h) (by decide) (by decide)) allQ.nil) (Nat.le_of_ble_eq_true rfl) (fun x180 h179 => ?_)
        refine j_aload_n d_Law_law_1090 2 rfl rfl ?_
        refine j_vI0 d_Law_law_1091 (allQ.cons (VD.mk vt_L_114_12 (ct_M_clear N l D dA B l2 h179) (by decide) (by decide)) allQ.nil) (Nat.le_of_ble_eq_true rfl) (fun x182 h181 => ?_)
        refine j_icmp_eq (tgt := 1671) d_Law_law_1094 (by decide) ?_ ?_
        · exact jc_Law_law_1671 N xs L hX hbl hbA (Law_law_18 N xs L n) ih l1 l2 l3 h181
        · refine j_iconst (v := 0) d_Law_law_1097 (by decide) ?_
          exact j_retLaw d_Law_law_1098
      · refine j_aload_n d_Law_law_1099 1 rfl rfl ?_
        refine j_vI0 d_Law_law_1100 (allQ.cons (VD.mk vt_L_115_11 (ct_C_ring N l D dA B l1 h) (by decide) (by decide)) allQ.nil) (Nat.le_of_ble_eq_true rfl) (fun x184 h183 => ?_)
        refine j_aload_n d_Law_law_1103 2 rfl rfl ?_
        refine j_vI0 d_Law_law_1104 (allQ.cons (VD.mk vt_L_118_12 (ct_M_ring N l D dA B l2 h183) (by decide) (by decide)) allQ.nil) (Nat.le_of_ble_eq_true rfl) (fun x186 h185 => ?_)
        refine j_icmp_eq (tgt := 1671) d_Law_law_1107 (by decide) ?_ ?_
        · exact jc_Law_law_1671 N xs L hX hbl hbA (Law_law_18 N xs L n) ih l1 l2 l3 h185
        · refine j_iconst (v := 0) d_Law_law_1110 (by decide) ?_
          exact j_retLaw d_Law_law_1111
      · refine j_aload_n d_Law_law_1112 1 rfl rfl ?_
        refine j_aload_nA d_Law_law_1113 0 rfl rfl ?_
        refine j_iload_n d_Law_law_1114 3 rfl rfl ?_
        refine j_iconst (v := 1) d_Law_law_1115 (by decide) ?_
        refine j_iadd d_Law_law_1116 ?_
        refine j_sld hX hbl hbA d_Law_law_1117 (fun x187 => ?_)
        refine j_vI1 d_Law_law_1118 (allQ.cons (VD.mk vt_L_119_11 (ct_C_on N l D dA B l1 x187 h) (by decide) (by decide)) allQ.nil) (Nat.le_of_ble_eq_true rfl) (fun x189 h188 => ?_)
        refine j_aload_n d_Law_law_1121 2 rfl rfl ?_
        refine j_aload_nA d_Law_law_1122 0 rfl rfl ?_
        refine j_iload_n d_Law_law_1123 3 rfl rfl ?_
        refine j_iconst (v := 1) d_Law_law_1124 (by decide) ?_
        refine j_iadd d_Law_law_1125 ?_
        refine j_sld hX hbl hbA d_Law_law_1126 (fun x190 => ?_)
        refine j_vI1 d_Law_law_1127 (allQ.cons (VD.mk vt_L_122_12 (ct_M_on N l D dA B l2 x190 h188) (by decide) (by decide)) allQ.nil) (Nat.le_of_ble_eq_true rfl) (fun x192 h191 => ?_)
        refine j_icmp_eq (tgt := 1671) d_Law_law_1130 (by decide) ?_ ?_
        · exact jc_Law_law_1671 N xs L hX hbl hbA (Law_law_18 N xs L n) ih l1 l2 l3 h191
        · refine j_iconst (v := 0) d_Law_law_1133 (by decide) ?_
          exact j_retLaw d_Law_law_1134
      · refine j_aload_n d_Law_law_1135 1 rfl rfl ?_
        refine j_aload_nA d_Law_law_1136 0 rfl rfl ?_
        refine j_iload_n d_Law_law_1137 3 rfl rfl ?_
        refine j_iconst (v := 1) d_Law_law_1138 (by decide) ?_
        refine j_iadd d_Law_law_1139 ?_
        refine j_sld hX hbl hbA d_Law_law_1140 (fun x193 => ?_)
        refine j_vL1 d_Law_law_1141 (allQ.cons (VD.mk vt_L_123_11 (ct_C_at N l D dA B l1 x193 h) (by decide) (by decide)) allQ.nil) (Nat.le_of_ble_eq_true rfl) (fun x195 h194 => ?_)
        refine j_aload_n d_Law_law_1144 2 rfl rfl ?_
        refine j_aload_nA d_Law_law_1145 0 rfl rfl ?_
        refine j_iload_n d_Law_law_1146 3 rfl rfl ?_
        refine j_iconst (v := 1) d_Law_law_1147 (by decide) ?_
        refine j_iadd d_Law_law_1148 ?_
        refine j_sld hX hbl hbA d_Law_law_1149 (fun x196 => ?_)
        refine j_vL1 d_Law_law_1150 (allQ.cons (VD.mk vt_L_126_12 (ct_M_at N l D dA B l2 x196 h194) (by decide) (by decide)) allQ.nil) (Nat.le_of_ble_eq_true rfl) (fun x198 h197 => ?_)
        refine j_lcmp d_Law_law_1153 ?_
        refine j_if_eq (tgt := 1671) d_Law_law_1154 (by decide) ?_ ?_
        · exact jc_Law_law_1671 N xs L hX hbl hbA (Law_law_18 N xs L n) ih l1 l2 l3 h197
        · refine j_iconst (v := 0) d_Law_law_1157 (by decide) ?_
          exact j_retLaw d_Law_law_1158
      · refine j_aload_n d_Law_law_1159 1 rfl rfl ?_
        refine j_vI0 d_Law_law_1160 (allQ.cons (VD.mk vt_L_127_11 (ct_C_round N l D dA B l1 h) (by decide) (by decide)) allQ.nil) (Nat.le_of_ble_eq_true rfl) (fun x200 h199 => ?_)
        refine j_aload_n d_Law_law_1163 2 rfl rfl ?_
        refine j_vI0 d_Law_law_1164 (allQ.cons (VD.mk vt_L_130_12 (ct_M_round N l D dA B l2 h199) (by decide) (by decide)) allQ.nil) (Nat.le_of_ble_eq_true rfl) (fun x202 h201 => ?_)
        refine j_icmp_eq (tgt := 1671) d_Law_law_1167 (by decide) ?_ ?_
        · exact jc_Law_law_1671 N xs L hX hbl hbA (Law_law_18 N xs L n) ih l1 l2 l3 h201
        · refine j_iconst (v := 0) d_Law_law_1170 (by decide) ?_
          exact j_retLaw d_Law_law_1171
      · refine j_aload_n d_Law_law_1172 1 rfl rfl ?_
        refine j_vI0 d_Law_law_1173 (allQ.cons (VD.mk vt_L_131_11 (ct_C_falseAt N l D dA B l1 h) (by decide) (by decide)) allQ.nil) (Nat.le_of_ble_eq_true rfl) (fun x204 h203 => ?_)
        refine j_aload_n d_Law_law_1176 2 rfl rfl ?_
        refine j_vI0 d_Law_law_1177 (allQ.cons (VD.mk vt_L_134_12 (ct_M_falseAt N l D dA B l2 h203) (by decide) (by decide)) allQ.nil) (Nat.le_of_ble_eq_true rfl) (fun x206 h205 => ?_)
        refine j_icmp_eq (tgt := 1671) d_Law_law_1180 (by decide) ?_ ?_
        · exact jc_Law_law_1671 N xs L hX hbl hbA (Law_law_18 N xs L n) ih l1 l2 l3 h205
        · refine j_iconst (v := 0) d_Law_law_1183 (by decide) ?_
          exact j_retLaw d_Law_law_1184
      · refine j_aload_n d_Law_law_1185 1 rfl rfl ?_
        refine j_vI0 d_Law_law_1186 (allQ.cons (VD.mk vt_L_135_11 (ct_C_proof N l D dA B l1 h) (by decide) (by decide)) allQ.nil) (Nat.le_of_ble_eq_true rfl) (fun x208 h207 => ?_)
        refine j_aload_n d_Law_law_1189 2 rfl rfl ?_
        refine j_vI0 d_Law_law_1190 (allQ.cons (VD.mk vt_L_138_12 (ct_M_proof N l D dA B l2 h207) (by decide) (by decide)) allQ.nil) (Nat.le_of_ble_eq_true rfl) (fun x210 h209 => ?_)
        refine j_icmp_eq (tgt := 1671) d_Law_law_1193 (by decide) ?_ ?_
        · exact jc_Law_law_1671 N xs L hX hbl hbA (Law_law_18 N xs L n) ih l1 l2 l3 h209
        · refine j_iconst (v := 0) d_Law_law_1196 (by decide) ?_
          exact j_retLaw d_Law_law_1197
      · refine j_aload_n d_Law_law_1198 1 rfl rfl ?_
        refine j_aload_nA d_Law_law_1199 0 rfl rfl ?_
        refine j_iload_n d_Law_law_1200 3 rfl rfl ?_
        refine j_iconst (v := 1) d_Law_law_1201 (by decide) ?_
        refine j_iadd d_Law_law_1202 ?_
        refine j_sld hX hbl hbA d_Law_law_1203 (fun x211 => ?_)
        refine j_vI1 d_Law_law_1204 (allQ.cons (VD.mk vt_L_139_11 (ct_C_proofAt N l D dA B l1 x211 h) (by decide) (by decide)) allQ.nil) (Nat.le_of_ble_eq_true rfl) (fun x213 h212 => ?_)
        refine j_aload_n d_Law_law_1207 2 rfl rfl ?_
        refine j_aload_nA d_Law_law_1208 0 rfl rfl ?_
        refine j_iload_n d_Law_law_1209 3 rfl rfl ?_
        refine j_iconst (v := 1) d_Law_law_1210 (by decide) ?_
        refine j_iadd d_Law_law_1211 ?_
        refine j_sld hX hbl hbA d_Law_law_1212 (fun x214 => ?_)
        refine j_vI1 d_Law_law_1213 (allQ.cons (VD.mk vt_L_142_12 (ct_M_proofAt N l D dA B l2 x214 h212) (by decide) (by decide)) allQ.nil) (Nat.le_of_ble_eq_true rfl) (fun x216 h215 => ?_)
        refine j_icmp_eq (tgt := 1671) d_Law_law_1216 (by decide) ?_ ?_
        · exact jc_Law_law_1671 N xs L hX hbl hbA (Law_law_18 N xs L n) ih l1 l2 l3 h215
        · refine j_iconst (v := 0) d_Law_law_1219 (by decide) ?_
          exact j_retLaw d_Law_law_1220
      · refine j_aload_n d_Law_law_1221 1 rfl rfl ?_
        refine j_aload_nA d_Law_law_1222 0 rfl rfl ?_
        refine j_iload_n d_Law_law_1223 3 rfl rfl ?_
        refine j_iconst (v := 1) d_Law_law_1224 (by decide) ?_
        refine j_iadd d_Law_law_1225 ?_
        refine j_sld hX hbl hbA d_Law_law_1226 (fun x217 => ?_)
        refine j_aload_nA d_Law_law_1227 0 rfl rfl ?_
        refine j_iload_n d_Law_law_1228 3 rfl rfl ?_
        refine j_iconst (v := 2) d_Law_law_1229 (by decide) ?_
        refine j_iadd d_Law_law_1230 ?_
        refine j_sld hX hbl hbA d_Law_law_1231 (fun x218 => ?_)
        refine j_vI2 d_Law_law_1232 (allQ.cons (VD.mk vt_L_143_11 (ct_C_forge N l D dA B l1 x217 x218 h) (by decide) (by decide)) allQ.nil) (Nat.le_of_ble_eq_true rfl) (fun x220 h219 => ?_)
        refine j_aload_n d_Law_law_1235 2 rfl rfl ?_
        refine j_aload_nA d_Law_law_1236 0 rfl rfl ?_
        refine j_iload_n d_Law_law_1237 3 rfl rfl ?_
        refine j_iconst (v := 1) d_Law_law_1238 (by decide) ?_
        refine j_iadd d_Law_law_1239 ?_
        refine j_sld hX hbl hbA d_Law_law_1240 (fun x221 => ?_)
        refine j_aload_nA d_Law_law_1241 0 rfl rfl ?_
        refine j_iload_n d_Law_law_1242 3 rfl rfl ?_
        refine j_iconst (v := 2) d_Law_law_1243 (by decide) ?_
        refine j_iadd d_Law_law_1244 ?_
        refine j_sld hX hbl hbA d_Law_law_1245 (fun x222 => ?_)
        refine j_vI2 d_Law_law_1246 (allQ.cons (VD.mk vt_L_146_12 (ct_M_forge N l D dA B l2 x221 x222 h219) (by decide) (by decide)) allQ.nil) (Nat.le_of_ble_eq_true rfl) (fun x224 h223 => ?_)
        refine j_icmp_eq (tgt := 1671) d_Law_law_1249 (by decide) ?_ ?_
        · exact jc_Law_law_1671 N xs L hX hbl hbA (Law_law_18 N xs L n) ih l1 l2 l3 h223
        · refine j_iconst (v := 0) d_Law_law_1252 (by decide) ?_
          exact j_retLaw d_Law_law_1253
      · refine j_aload_n d_Law_law_1254 1 rfl rfl ?_
        refine j_vI0 d_Law_law_1255 (allQ.cons (VD.mk vt_L_147_11 (ct_C_check N l D dA B l1 h) (by decide) (by decide)) allQ.nil) (Nat.le_of_ble_eq_true rfl) (fun x226 h225 => ?_)
        refine j_aload_n d_Law_law_1258 2 rfl rfl ?_
        refine j_vI0 d_Law_law_1259 (allQ.cons (VD.mk vt_L_151_12 (ct_M_check N l D dA B l2 h225) (by decide) (by decide)) allQ.nil) (Nat.le_of_ble_eq_true rfl) (fun x228 h227 => ?_)
        refine j_icmp_eq (tgt := 1671) d_Law_law_1262 (by decide) ?_ ?_
        · exact jc_Law_law_1671 N xs L hX hbl hbA (Law_law_18 N xs L n) ih l1 l2 l3 h227
        · refine j_iconst (v := 0) d_Law_law_1265 (by decide) ?_
          exact j_retLaw d_Law_law_1266
      · refine j_aload_n d_Law_law_1267 1 rfl rfl ?_
        refine j_aload_nA d_Law_law_1268 0 rfl rfl ?_
        refine j_iload_n d_Law_law_1269 3 rfl rfl ?_
        refine j_iconst (v := 1) d_Law_law_1270 (by decide) ?_
        refine j_iadd d_Law_law_1271 ?_
        refine j_sld hX hbl hbA d_Law_law_1272 (fun x229 => ?_)
        refine j_aload_nA d_Law_law_1273 0 rfl rfl ?_
        refine j_iload_n d_Law_law_1274 3 rfl rfl ?_
        refine j_iconst (v := 2) d_Law_law_1275 (by decide) ?_
        refine j_iadd d_Law_law_1276 ?_
        refine j_sld hX hbl hbA d_Law_law_1277 (fun x230 => ?_)
        refine j_if_eq (tgt := 1285) d_Law_law_1278 (by decide) ?_ ?_
        · refine j_iconst (v := 0) d_Law_law_1285 (by decide) ?_
          exact jc_Law_law_1286 N xs L hX hbl hbA (Law_law_18 N xs L n) ih l1 l2 l3 l1 x229 0 h
        · refine j_iconst (v := 1) d_Law_law_1281 (by decide) ?_
          refine j_goto (tgt := 1286) d_Law_law_1282 (by decide) ?_
          exact jc_Law_law_1286 N xs L hX hbl hbA (Law_law_18 N xs L n) ih l1 l2 l3 l1 x229 1 h
      · refine j_aload_n d_Law_law_1316 1 rfl rfl ?_
        refine j_aload_nA d_Law_law_1317 0 rfl rfl ?_
        refine j_iload_n d_Law_law_1318 3 rfl rfl ?_
        refine j_iconst (v := 1) d_Law_law_1319 (by decide) ?_
        refine j_iadd d_Law_law_1320 ?_
        refine j_sld hX hbl hbA d_Law_law_1321 (fun x231 => ?_)
        refine j_vL1 d_Law_law_1322 (allQ.cons (VD.mk vt_L_157_11 (ct_C_heard N l D dA B l1 x231 h) (by decide) (by decide)) allQ.nil) (Nat.le_of_ble_eq_true rfl) (fun x233 h232 => ?_)
        refine j_aload_n d_Law_law_1325 2 rfl rfl ?_
        refine j_aload_nA d_Law_law_1326 0 rfl rfl ?_
        refine j_iload_n d_Law_law_1327 3 rfl rfl ?_
        refine j_iconst (v := 1) d_Law_law_1328 (by decide) ?_
        refine j_iadd d_Law_law_1329 ?_
        refine j_sld hX hbl hbA d_Law_law_1330 (fun x234 => ?_)
        refine j_vL1 d_Law_law_1331 (allQ.cons (VD.mk vt_L_160_12 (ct_M_heard N l D dA B l2 x234 h232) (by decide) (by decide)) allQ.nil) (Nat.le_of_ble_eq_true rfl) (fun x236 h235 => ?_)
        refine j_lcmp d_Law_law_1334 ?_
        refine j_if_eq (tgt := 1671) d_Law_law_1335 (by decide) ?_ ?_
        · exact jc_Law_law_1671 N xs L hX hbl hbA (Law_law_18 N xs L n) ih l1 l2 l3 h235
        · refine j_iconst (v := 0) d_Law_law_1338 (by decide) ?_
          exact j_retLaw d_Law_law_1339
      · refine j_aload_n d_Law_law_1340 1 rfl rfl ?_
        refine j_aload_nA d_Law_law_1341 0 rfl rfl ?_
        refine j_iload_n d_Law_law_1342 3 rfl rfl ?_
        refine j_iconst (v := 1) d_Law_law_1343 (by decide) ?_
        refine j_iadd d_Law_law_1344 ?_
        refine j_sld hX hbl hbA d_Law_law_1345 (fun x237 => ?_)
        refine j_i2l d_Law_law_1346 ?_
        refine j_bipush (v := 32) d_Law_law_1347 (by decide) ?_
        refine j_lshl d_Law_law_1349 ?_
        refine j_aload_nA d_Law_law_1350 0 rfl rfl ?_
        refine j_iload_n d_Law_law_1351 3 rfl rfl ?_
        refine j_iconst (v := 2) d_Law_law_1352 (by decide) ?_
        refine j_iadd d_Law_law_1353 ?_
        refine j_sld hX hbl hbA d_Law_law_1354 (fun x238 => ?_)
        refine j_i2l d_Law_law_1355 ?_
        refine j_ldc2 d_Law_law_1356 ckl_L_66 ?_
        refine j_land d_Law_law_1359 ?_
        refine j_lor d_Law_law_1360 ?_
        refine j_aload_nA d_Law_law_1361 0 rfl rfl ?_
        refine j_iload_n d_Law_law_1362 3 rfl rfl ?_
        refine j_iconst (v := 3) d_Law_law_1363 (by decide) ?_
        refine j_iadd d_Law_law_1364 ?_
        refine j_sld hX hbl hbA d_Law_law_1365 (fun x239 => ?_)
        refine j_i2l d_Law_law_1366 ?_
        refine j_bipush (v := 32) d_Law_law_1367 (by decide) ?_
        refine j_lshl d_Law_law_1369 ?_
        refine j_aload_nA d_Law_law_1370 0 rfl rfl ?_
        refine j_iload_n d_Law_law_1371 3 rfl rfl ?_
        refine j_iconst (v := 4) d_Law_law_1372 (by decide) ?_
        refine j_iadd d_Law_law_1373 ?_
        refine j_sld hX hbl hbA d_Law_law_1374 (fun x240 => ?_)
        refine j_i2l d_Law_law_1375 ?_
        refine j_ldc2 d_Law_law_1376 ckl_L_66 ?_
        refine j_land d_Law_law_1379 ?_
        refine j_lor d_Law_law_1380 ?_
        refine j_vI2 d_Law_law_1381 (allQ.cons (VD.mk vt_L_161_11 (ct_C_fits N l D dA B l1 (((Int32.toInt64 x237) <<< (Int32.toInt64 (32 : Int32) &&& 63)) ||| ((Int32.toInt64 x238) &&& (4294967295 : Int64))) (((Int32.toInt64 x239) <<< (Int32.toInt64 (32 : Int32) &&& 63)) ||| ((Int32.toInt64 x240) &&& (4294967295 : Int64))) h) (by decide) (by decide)) allQ.nil) (Nat.le_of_ble_eq_true rfl) (fun x242 h241 => ?_)
        refine j_aload_n d_Law_law_1384 2 rfl rfl ?_
        refine j_aload_nA d_Law_law_1385 0 rfl rfl ?_
        refine j_iload_n d_Law_law_1386 3 rfl rfl ?_
        refine j_iconst (v := 1) d_Law_law_1387 (by decide) ?_
        refine j_iadd d_Law_law_1388 ?_
        refine j_sld hX hbl hbA d_Law_law_1389 (fun x243 => ?_)
        refine j_i2l d_Law_law_1390 ?_
        refine j_bipush (v := 32) d_Law_law_1391 (by decide) ?_
        refine j_lshl d_Law_law_1393 ?_
        refine j_aload_nA d_Law_law_1394 0 rfl rfl ?_
        refine j_iload_n d_Law_law_1395 3 rfl rfl ?_
        refine j_iconst (v := 2) d_Law_law_1396 (by decide) ?_
        refine j_iadd d_Law_law_1397 ?_
        refine j_sld hX hbl hbA d_Law_law_1398 (fun x244 => ?_)
        refine j_i2l d_Law_law_1399 ?_
        refine j_ldc2 d_Law_law_1400 ckl_L_66 ?_
        refine j_land d_Law_law_1403 ?_
        refine j_lor d_Law_law_1404 ?_
        refine j_aload_nA d_Law_law_1405 0 rfl rfl ?_
        refine j_iload_n d_Law_law_1406 3 rfl rfl ?_
        refine j_iconst (v := 3) d_Law_law_1407 (by decide) ?_
        refine j_iadd d_Law_law_1408 ?_
        refine j_sld hX hbl hbA d_Law_law_1409 (fun x245 => ?_)
        refine j_i2l d_Law_law_1410 ?_
        refine j_bipush (v := 32) d_Law_law_1411 (by decide) ?_
        refine j_lshl d_Law_law_1413 ?_
        refine j_aload_nA d_Law_law_1414 0 rfl rfl ?_
        refine j_iload_n d_Law_law_1415 3 rfl rfl ?_
        refine j_iconst (v := 4) d_Law_law_1416 (by decide) ?_
        refine j_iadd d_Law_law_1417 ?_
        refine j_sld hX hbl hbA d_Law_law_1418 (fun x246 => ?_)
        refine j_i2l d_Law_law_1419 ?_
        refine j_ldc2 d_Law_law_1420 ckl_L_66 ?_
        refine j_land d_Law_law_1423 ?_
        refine j_lor d_Law_law_1424 ?_
        refine j_vI2 d_Law_law_1425 (allQ.cons (VD.mk vt_L_165_12 (ct_M_fits N l D dA B l2 (((Int32.toInt64 x243) <<< (Int32.toInt64 (32 : Int32) &&& 63)) ||| ((Int32.toInt64 x244) &&& (4294967295 : Int64))) (((Int32.toInt64 x245) <<< (Int32.toInt64 (32 : Int32) &&& 63)) ||| ((Int32.toInt64 x246) &&& (4294967295 : Int64))) h241) (by decide) (by decide)) allQ.nil) (Nat.le_of_ble_eq_true rfl) (fun x248 h247 => ?_)
        refine j_icmp_eq (tgt := 1671) d_Law_law_1428 (by decide) ?_ ?_
        · exact jc_Law_law_1671 N xs L hX hbl hbA (Law_law_18 N xs L n) ih l1 l2 l3 h247
        · refine j_iconst (v := 0) d_Law_law_1431 (by decide) ?_
          exact j_retLaw d_Law_law_1432
      · refine j_aload_n d_Law_law_1433 1 rfl rfl ?_
        refine j_aload_nA d_Law_law_1434 0 rfl rfl ?_
        refine j_iload_n d_Law_law_1435 3 rfl rfl ?_
        refine j_iconst (v := 1) d_Law_law_1436 (by decide) ?_
        refine j_iadd d_Law_law_1437 ?_
        refine j_sld hX hbl hbA d_Law_law_1438 (fun x249 => ?_)
        refine j_i2l d_Law_law_1439 ?_
        refine j_bipush (v := 32) d_Law_law_1440 (by decide) ?_
        refine j_lshl d_Law_law_1442 ?_
        refine j_aload_nA d_Law_law_1443 0 rfl rfl ?_
        refine j_iload_n d_Law_law_1444 3 rfl rfl ?_
        refine j_iconst (v := 2) d_Law_law_1445 (by decide) ?_
        refine j_iadd d_Law_law_1446 ?_
        refine j_sld hX hbl hbA d_Law_law_1447 (fun x250 => ?_)
        refine j_i2l d_Law_law_1448 ?_
        refine j_ldc2 d_Law_law_1449 ckl_L_66 ?_
        refine j_land d_Law_law_1452 ?_
        refine j_lor d_Law_law_1453 ?_
        refine j_vI1 d_Law_law_1454 (allQ.cons (VD.mk vt_L_166_11 (ct_C_music N l D dA B l1 (((Int32.toInt64 x249) <<< (Int32.toInt64 (32 : Int32) &&& 63)) ||| ((Int32.toInt64 x250) &&& (4294967295 : Int64))) h) (by decide) (by decide)) allQ.nil) (Nat.le_of_ble_eq_true rfl) (fun x252 h251 => ?_)
        refine j_aload_n d_Law_law_1457 2 rfl rfl ?_
        refine j_aload_nA d_Law_law_1458 0 rfl rfl ?_
        refine j_iload_n d_Law_law_1459 3 rfl rfl ?_
        refine j_iconst (v := 1) d_Law_law_1460 (by decide) ?_
        refine j_iadd d_Law_law_1461 ?_
        refine j_sld hX hbl hbA d_Law_law_1462 (fun x253 => ?_)
        refine j_i2l d_Law_law_1463 ?_
        refine j_bipush (v := 32) d_Law_law_1464 (by decide) ?_
        refine j_lshl d_Law_law_1466 ?_
        refine j_aload_nA d_Law_law_1467 0 rfl rfl ?_
        refine j_iload_n d_Law_law_1468 3 rfl rfl ?_
        refine j_iconst (v := 2) d_Law_law_1469 (by decide) ?_
        refine j_iadd d_Law_law_1470 ?_
        refine j_sld hX hbl hbA d_Law_law_1471 (fun x254 => ?_)
        refine j_i2l d_Law_law_1472 ?_
        refine j_ldc2 d_Law_law_1473 ckl_L_66 ?_
        refine j_land d_Law_law_1476 ?_
        refine j_lor d_Law_law_1477 ?_
        refine j_vI1 d_Law_law_1478 (allQ.cons (VD.mk vt_L_169_12 (ct_M_music N l D dA B l2 (((Int32.toInt64 x253) <<< (Int32.toInt64 (32 : Int32) &&& 63)) ||| ((Int32.toInt64 x254) &&& (4294967295 : Int64))) h251) (by decide) (by decide)) allQ.nil) (Nat.le_of_ble_eq_true rfl) (fun x256 h255 => ?_)
        refine j_icmp_eq (tgt := 1671) d_Law_law_1481 (by decide) ?_ ?_
        · exact jc_Law_law_1671 N xs L hX hbl hbA (Law_law_18 N xs L n) ih l1 l2 l3 h255
        · refine j_iconst (v := 0) d_Law_law_1484 (by decide) ?_
          exact j_retLaw d_Law_law_1485
      · refine j_aload_n d_Law_law_1486 1 rfl rfl ?_
        refine j_aload_nA d_Law_law_1487 0 rfl rfl ?_
        refine j_iload_n d_Law_law_1488 3 rfl rfl ?_
        refine j_iconst (v := 1) d_Law_law_1489 (by decide) ?_
        refine j_iadd d_Law_law_1490 ?_
        refine j_sld hX hbl hbA d_Law_law_1491 (fun x257 => ?_)
        refine j_aload_nA d_Law_law_1492 0 rfl rfl ?_
        refine j_iload_n d_Law_law_1493 3 rfl rfl ?_
        refine j_iconst (v := 2) d_Law_law_1494 (by decide) ?_
        refine j_iadd d_Law_law_1495 ?_
        refine j_sld hX hbl hbA d_Law_law_1496 (fun x258 => ?_)
        refine j_vI2 d_Law_law_1497 (allQ.cons (VD.mk vt_L_170_11 (ct_C_allow N l D dA B l1 x257 x258 h) (by decide) (by decide)) allQ.nil) (Nat.le_of_ble_eq_true rfl) (fun x260 h259 => ?_)
        refine j_aload_n d_Law_law_1500 2 rfl rfl ?_
        refine j_aload_nA d_Law_law_1501 0 rfl rfl ?_
        refine j_iload_n d_Law_law_1502 3 rfl rfl ?_
        refine j_iconst (v := 1) d_Law_law_1503 (by decide) ?_
        refine j_iadd d_Law_law_1504 ?_
        refine j_sld hX hbl hbA d_Law_law_1505 (fun x261 => ?_)
        refine j_aload_nA d_Law_law_1506 0 rfl rfl ?_
        refine j_iload_n d_Law_law_1507 3 rfl rfl ?_
        refine j_iconst (v := 2) d_Law_law_1508 (by decide) ?_
        refine j_iadd d_Law_law_1509 ?_
        refine j_sld hX hbl hbA d_Law_law_1510 (fun x262 => ?_)
        refine j_vI2 d_Law_law_1511 (allQ.cons (VD.mk vt_L_173_12 (ct_M_allow N l D dA B l2 x261 x262 h259) (by decide) (by decide)) allQ.nil) (Nat.le_of_ble_eq_true rfl) (fun x264 h263 => ?_)
        refine j_icmp_eq (tgt := 1671) d_Law_law_1514 (by decide) ?_ ?_
        · exact jc_Law_law_1671 N xs L hX hbl hbA (Law_law_18 N xs L n) ih l1 l2 l3 h263
        · refine j_iconst (v := 0) d_Law_law_1517 (by decide) ?_
          exact j_retLaw d_Law_law_1518
      · refine j_aload_n d_Law_law_1519 1 rfl rfl ?_
        refine j_aload_nA d_Law_law_1520 0 rfl rfl ?_
        refine j_iload_n d_Law_law_1521 3 rfl rfl ?_
        refine j_iconst (v := 1) d_Law_law_1522 (by decide) ?_
        refine j_iadd d_Law_law_1523 ?_
        refine j_sld hX hbl hbA d_Law_law_1524 (fun x265 => ?_)
        refine j_aload_nA d_Law_law_1525 0 rfl rfl ?_
        refine j_iload_n d_Law_law_1526 3 rfl rfl ?_
        refine j_iconst (v := 2) d_Law_law_1527 (by decide) ?_
        refine j_iadd d_Law_law_1528 ?_
        refine j_sld hX hbl hbA d_Law_law_1529 (fun x266 => ?_)
        refine j_aload_nA d_Law_law_1530 0 rfl rfl ?_
        refine j_iload_n d_Law_law_1531 3 rfl rfl ?_
        refine j_iconst (v := 3) d_Law_law_1532 (by decide) ?_
        refine j_iadd d_Law_law_1533 ?_
        refine j_sld hX hbl hbA d_Law_law_1534 (fun x267 => ?_)
        refine j_i2l d_Law_law_1535 ?_
        refine j_bipush (v := 32) d_Law_law_1536 (by decide) ?_
        refine j_lshl d_Law_law_1538 ?_
        refine j_aload_nA d_Law_law_1539 0 rfl rfl ?_
        refine j_iload_n d_Law_law_1540 3 rfl rfl ?_
        refine j_iconst (v := 4) d_Law_law_1541 (by decide) ?_
        refine j_iadd d_Law_law_1542 ?_
        refine j_sld hX hbl hbA d_Law_law_1543 (fun x268 => ?_)
        refine j_i2l d_Law_law_1544 ?_
        refine j_ldc2 d_Law_law_1545 ckl_L_66 ?_
        refine j_land d_Law_law_1548 ?_
        refine j_lor d_Law_law_1549 ?_
        refine j_aload_nA d_Law_law_1550 0 rfl rfl ?_
        refine j_iload_n d_Law_law_1551 3 rfl rfl ?_
        refine j_iconst (v := 5) d_Law_law_1552 (by decide) ?_
        refine j_iadd d_Law_law_1553 ?_
        refine j_sld hX hbl hbA d_Law_law_1554 (fun x269 => ?_)
        refine j_vI4 d_Law_law_1555 (allQ.cons (VD.mk vt_L_174_11 (ct_C_search N l D dA B l1 x265 x266 (((Int32.toInt64 x267) <<< (Int32.toInt64 (32 : Int32) &&& 63)) ||| ((Int32.toInt64 x268) &&& (4294967295 : Int64))) x269 h) (by decide) (by decide)) allQ.nil) (Nat.le_of_ble_eq_true rfl) (fun x271 h270 => ?_)
        refine j_aload_n d_Law_law_1558 2 rfl rfl ?_
        refine j_aload_nA d_Law_law_1559 0 rfl rfl ?_
        refine j_iload_n d_Law_law_1560 3 rfl rfl ?_
        refine j_iconst (v := 1) d_Law_law_1561 (by decide) ?_
        refine j_iadd d_Law_law_1562 ?_
        refine j_sld hX hbl hbA d_Law_law_1563 (fun x272 => ?_)
        refine j_aload_nA d_Law_law_1564 0 rfl rfl ?_
        refine j_iload_n d_Law_law_1565 3 rfl rfl ?_
        refine j_iconst (v := 2) d_Law_law_1566 (by decide) ?_
        refine j_iadd d_Law_law_1567 ?_
        refine j_sld hX hbl hbA d_Law_law_1568 (fun x273 => ?_)
        refine j_aload_nA d_Law_law_1569 0 rfl rfl ?_
        refine j_iload_n d_Law_law_1570 3 rfl rfl ?_
        refine j_iconst (v := 3) d_Law_law_1571 (by decide) ?_
        refine j_iadd d_Law_law_1572 ?_
        refine j_sld hX hbl hbA d_Law_law_1573 (fun x274 => ?_)
        refine j_i2l d_Law_law_1574 ?_
        refine j_bipush (v := 32) d_Law_law_1575 (by decide) ?_
        refine j_lshl d_Law_law_1577 ?_
        refine j_aload_nA d_Law_law_1578 0 rfl rfl ?_
        refine j_iload_n d_Law_law_1579 3 rfl rfl ?_
        refine j_iconst (v := 4) d_Law_law_1580 (by decide) ?_
        refine j_iadd d_Law_law_1581 ?_
        refine j_sld hX hbl hbA d_Law_law_1582 (fun x275 => ?_)
        refine j_i2l d_Law_law_1583 ?_
        refine j_ldc2 d_Law_law_1584 ckl_L_66 ?_
        refine j_land d_Law_law_1587 ?_
        refine j_lor d_Law_law_1588 ?_
        refine j_aload_nA d_Law_law_1589 0 rfl rfl ?_
        refine j_iload_n d_Law_law_1590 3 rfl rfl ?_
        refine j_iconst (v := 5) d_Law_law_1591 (by decide) ?_
        refine j_iadd d_Law_law_1592 ?_
        refine j_sld hX hbl hbA d_Law_law_1593 (fun x276 => ?_)
        refine j_vI4 d_Law_law_1594 (allQ.cons (VD.mk vt_L_178_12 (ct_M_search N l D dA B l2 x272 x273 (((Int32.toInt64 x274) <<< (Int32.toInt64 (32 : Int32) &&& 63)) ||| ((Int32.toInt64 x275) &&& (4294967295 : Int64))) x276 h270) (by decide) (by decide)) allQ.nil) (Nat.le_of_ble_eq_true rfl) (fun x278 h277 => ?_)
        refine j_icmp_eq (tgt := 1671) d_Law_law_1597 (by decide) ?_ ?_
        · exact jc_Law_law_1671 N xs L hX hbl hbA (Law_law_18 N xs L n) ih l1 l2 l3 h277
        · refine j_iconst (v := 0) d_Law_law_1600 (by decide) ?_
          exact j_retLaw d_Law_law_1601
      · refine j_aload_n d_Law_law_1602 1 rfl rfl ?_
        refine j_aload_nA d_Law_law_1603 0 rfl rfl ?_
        refine j_iload_n d_Law_law_1604 3 rfl rfl ?_
        refine j_iconst (v := 1) d_Law_law_1605 (by decide) ?_
        refine j_iadd d_Law_law_1606 ?_
        refine j_sld hX hbl hbA d_Law_law_1607 (fun x279 => ?_)
        refine j_vI1 d_Law_law_1608 (allQ.cons (VD.mk vt_L_179_11 (ct_C_goOn N l D dA B l1 x279 h) (by decide) (by decide)) allQ.nil) (Nat.le_of_ble_eq_true rfl) (fun x281 h280 => ?_)
        refine j_aload_n d_Law_law_1611 2 rfl rfl ?_
        refine j_aload_nA d_Law_law_1612 0 rfl rfl ?_
        refine j_iload_n d_Law_law_1613 3 rfl rfl ?_
        refine j_iconst (v := 1) d_Law_law_1614 (by decide) ?_
        refine j_iadd d_Law_law_1615 ?_
        refine j_sld hX hbl hbA d_Law_law_1616 (fun x282 => ?_)
        refine j_vI1 d_Law_law_1617 (allQ.cons (VD.mk vt_L_182_12 (ct_M_goOn N l D dA B l2 x282 h280) (by decide) (by decide)) allQ.nil) (Nat.le_of_ble_eq_true rfl) (fun x284 h283 => ?_)
        refine j_icmp_eq (tgt := 1671) d_Law_law_1620 (by decide) ?_ ?_
        · exact jc_Law_law_1671 N xs L hX hbl hbA (Law_law_18 N xs L n) ih l1 l2 l3 h283
        · refine j_iconst (v := 0) d_Law_law_1623 (by decide) ?_
          exact j_retLaw d_Law_law_1624
      · refine j_aload_n d_Law_law_1625 1 rfl rfl ?_
        refine j_aload_nA d_Law_law_1626 0 rfl rfl ?_
        refine j_iload_n d_Law_law_1627 3 rfl rfl ?_
        refine j_iconst (v := 1) d_Law_law_1628 (by decide) ?_
        refine j_iadd d_Law_law_1629 ?_
        refine j_sld hX hbl hbA d_Law_law_1630 (fun x285 => ?_)
        refine j_vI1 d_Law_law_1631 (allQ.cons (VD.mk vt_L_183_11 (ct_C_found N l D dA B l1 x285 h) (by decide) (by decide)) allQ.nil) (Nat.le_of_ble_eq_true rfl) (fun x287 h286 => ?_)
        refine j_aload_n d_Law_law_1634 2 rfl rfl ?_
        refine j_aload_nA d_Law_law_1635 0 rfl rfl ?_
        refine j_iload_n d_Law_law_1636 3 rfl rfl ?_
        refine j_iconst (v := 1) d_Law_law_1637 (by decide) ?_
        refine j_iadd d_Law_law_1638 ?_
        refine j_sld hX hbl hbA d_Law_law_1639 (fun x288 => ?_)
        refine j_vI1 d_Law_law_1640 (allQ.cons (VD.mk vt_L_186_12 (ct_M_found N l D dA B l2 x288 h286) (by decide) (by decide)) allQ.nil) (Nat.le_of_ble_eq_true rfl) (fun x290 h289 => ?_)
        refine j_icmp_eq (tgt := 1671) d_Law_law_1643 (by decide) ?_ ?_
        · exact jc_Law_law_1671 N xs L hX hbl hbA (Law_law_18 N xs L n) ih l1 l2 l3 h289
        · refine j_iconst (v := 0) d_Law_law_1646 (by decide) ?_
          exact j_retLaw d_Law_law_1647
      · refine j_aload_n d_Law_law_1648 1 rfl rfl ?_
        refine j_aload_nA d_Law_law_1649 0 rfl rfl ?_
        refine j_iload_n d_Law_law_1650 3 rfl rfl ?_
        refine j_iconst (v := 1) d_Law_law_1651 (by decide) ?_
        refine j_iadd d_Law_law_1652 ?_
        refine j_sld hX hbl hbA d_Law_law_1653 (fun x291 => ?_)
        refine j_vI1 d_Law_law_1654 (allQ.cons (VD.mk vt_L_187_11 (ct_C_count N l D dA B l1 x291 h) (by decide) (by decide)) allQ.nil) (Nat.le_of_ble_eq_true rfl) (fun x293 h292 => ?_)
        refine j_aload_n d_Law_law_1657 2 rfl rfl ?_
        refine j_aload_nA d_Law_law_1658 0 rfl rfl ?_
        refine j_iload_n d_Law_law_1659 3 rfl rfl ?_
        refine j_iconst (v := 1) d_Law_law_1660 (by decide) ?_
        refine j_iadd d_Law_law_1661 ?_
        refine j_sld hX hbl hbA d_Law_law_1662 (fun x294 => ?_)
        refine j_vI1 d_Law_law_1663 (allQ.cons (VD.mk vt_L_190_12 (ct_M_count_4 N l D dA B l2 x294 h292) (by decide) (by decide)) allQ.nil) (Nat.le_of_ble_eq_true rfl) (fun x296 h295 => ?_)
        refine j_icmp_eq (tgt := 1671) d_Law_law_1666 (by decide) ?_ ?_
        · exact jc_Law_law_1671 N xs L hX hbl hbA (Law_law_18 N xs L n) ih l1 l2 l3 h295
        · refine j_iconst (v := 0) d_Law_law_1669 (by decide) ?_
          exact j_retLaw d_Law_law_1670
      · exact jc_Law_law_1671 N xs L hX hbl hbA (Law_law_18 N xs L n) ih l1 l2 l3 h
set_option maxRecDepth 20000 in
theorem jc_Law_law (N : Nat) (xs : Nat → Int32) (L : Nat) (hX : va_X b L xs s s.heap) (hbl : b < s.heap.size) (hbA : ¬ B ≤ b) (h : Hp) : J p l e room_1 s m #[Value.ref b] below meth c code 4 "RingingChamberLaw" 2048 84000 (some .boolean) meth.name D dA B 0 0 (QLw below b s) 0 [(0, vb b)] [] h (Law_law N xs L  h) := by
  unfold Law_law
  refine j_new d_Law_law_0 nl_L_7 (fun x1 h2 => ?_)
  refine j_dup d_Law_law_3 rfl ?_
  refine j_i0 d_Law_law_4 sl_L_9 ki_C_init (ct_C_init N l D dA B x1 h2) (by decide) (by decide) (Nat.le_of_ble_eq_true rfl) (fun _ h3 => ?_)
  refine j_astore_n (lv' := [(1, vr x1), (0, vb b)]) d_Law_law_7 rfl (by decide) rfl ?_
  refine j_new d_Law_law_8 nl_L_10 (fun x4 h5 => ?_)
  refine j_dup d_Law_law_11 rfl ?_
  refine j_i0 d_Law_law_12 sl_L_12 ki_M_init (ct_M_init N l D dA B x4 h5) (by decide) (by decide) (Nat.le_of_ble_eq_true rfl) (fun _ h6 => ?_)
  refine j_astore_n (lv' := [(2, vr x4), (1, vr x1), (0, vb b)]) d_Law_law_15 rfl (by decide) rfl ?_
  refine j_iconst (v := 0) d_Law_law_16 (by decide) ?_
  refine j_istore_n (lv' := [(3, vi 0), (2, vr x4), (1, vr x1), (0, vb b)]) d_Law_law_17 rfl (by decide) rfl ?_
  exact J.sub [3, 2, 1, 0] rfl (jc_Law_law_18 N xs L hX hbl hbA N x1 x4 0 h6)
end
