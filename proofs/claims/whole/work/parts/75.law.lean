/-! THE CLAIM OUT OF ONE WALK OF THE LAW'S BODY. Your part is whole_start (and what it stands on); all else here is the same for every law, but numbers. -/
def R_law : String := "FoxGeeseLaw"
def lw_P (b : Addr) (xs : List Int32) (args : Array Value) (s : State) : Prop := args = #[.ref b] ∧ s.IntsAt b xs ∧ xs.length ≤ 3072 ∧ (Jvm.Cond.and given_1 narrow_1).before args s = true
def lw_Q (_ : Array Value) (s : State) (o : Outcome) (t : State) : Prop := o = .returned (some (.int 1)) ∧ Framed s o t [] 600000 7302250
def lw_Z (below : List Frame) (a : Array Value) (s : State) : State → Prop := fun t => ∃ o, t.status = .running ∧ Ended t below o ∧ lw_Q a s o t
/-- the law's own end, with 1 on the stack, nothing written that was there before, its room as the claim has it -/
theorem lw_ret {p : Program} {l : Launch} {e : Env} {s : State} {m : MethodId} {below : List Frame} {meth : Method} {c : Code} {b : Nat} (hx : p.tables.exec = Jvm.exec) (hb : c.code = code) (hr : meth.sig.returnType = ret) (hlocks : meth.locks = false) {pc : Nat} {H : Heap} {ls : Array Slot} (hdg : decode code pc = .ok (.ireturn, 1)) : W p l e room_1 s m #[Value.ref b] below meth c H [] 600000 7302250 (lw_Z below #[Value.ref b] s) (F0 m pc ls [.int 1]) := by
  intro T hT X
  obtain ⟨fs, hret, hrun, hended, hW, hframe⟩ := X.leave (v := some (.int 1)) (hlocks := hlocks) (fun h => by rw [hr] at h; cases h)
  have hmeth' : T.vm.method? m = some meth := X.method'
  refine ⟨T.setFrames fs, ?_, .returned (some (.int 1)), hrun, hended, rfl, ⟨_, rfl⟩, hW, hframe⟩
  jvm_step X.here [X.here.top, hx, hb, hdg, hmeth', hr, ret, narrow_b1]
  (try refine ⟨rfl, ?_⟩); (try refine ⟨rfl, ?_⟩)
  first | (intro acts; rw [hret _ acts rfl rfl rfl]) | rw [hret _ _ rfl rfl rfl]
  exact Steps.refl _
/-- what holds at the law's entry: the machine, the code, the tables' words (any of lw_tbl by 'hts w (by decide +kernel)'), the script of L ints xs at the cell b, what the Statement gives of the start (any of its parts by flat_of_before) -/
def lw_At (p : Program) (s : State) (m : MethodId) (meth : Method) (c : Code) (b L : Nat) (xs : Nat → Int32) : Prop :=
  p.tables.exec = Jvm.exec ∧ c.code = code ∧ meth.sig.returnType = ret ∧ c.maxLocals = 4 ∧ s.vm.findClass R_law = some m.cls ∧ (∀ w ∈ lw_tbl, w.before #[Value.ref b] s = true) ∧ va_X b L xs s s.heap ∧ b < s.heap.size ∧ meth.locks = false ∧ (Jvm.Cond.and given_1 narrow_1).before #[Value.ref b] s = true
theorem dl_0 : decode code 0 = .ok (.new 7, 3) := by decide +kernel
theorem dl_3 : decode code 3 = .ok (.dup, 1) := by decide +kernel
theorem dl_4 : decode code 4 = .ok (.invokespecial 9, 3) := by decide +kernel
theorem dl_7 : decode code 7 = .ok (.astore_n 1, 1) := by decide +kernel
theorem dl_8 : decode code 8 = .ok (.new 10, 3) := by decide +kernel
theorem dl_11 : decode code 11 = .ok (.dup, 1) := by decide +kernel
theorem dl_12 : decode code 12 = .ok (.invokespecial 12, 3) := by decide +kernel
theorem dl_15 : decode code 15 = .ok (.astore_n 2, 1) := by decide +kernel
theorem dl_16 : decode code 16 = .ok (.iconst 0, 1) := by decide +kernel
theorem dl_17 : decode code 17 = .ok (.istore_n 3, 1) := by decide +kernel
theorem dl_18 : decode code 18 = .ok (.iload_n 3, 1) := by decide +kernel
theorem dl_19 : decode code 19 = .ok (.aload_n 0, 1) := by decide +kernel
theorem dl_20 : decode code 20 = .ok (.arraylength, 1) := by decide +kernel
theorem dl_21 : decode code 21 = .ok (.bipush 6, 2) := by decide +kernel
theorem dl_23 : decode code 23 = .ok (.isub, 1) := by decide +kernel
theorem dl_24 : decode code 24 = .ok (.if_icmp .gt 929, 3) := by decide +kernel
theorem dl_27 : decode code 27 = .ok (.aload_n 0, 1) := by decide +kernel
theorem dl_28 : decode code 28 = .ok (.iload_n 3, 1) := by decide +kernel
theorem dl_29 : decode code 29 = .ok (.iaload, 1) := by decide +kernel
theorem dl_30 : decode code 30 = .ok (.bipush 31, 2) := by decide +kernel
theorem dl_32 : decode code 32 = .ok (.iand, 1) := by decide +kernel
theorem dl_33 : decode code 33 = .ok (.tableswitch 914 0 30 #[139, 172, 195, 228, 261, 284, 297, 310, 333, 366, 379, 392, 425, 448, 471, 494, 507, 530, 593, 656, 679, 692, 705, 728, 751, 784, 808, 831, 854, 877, 900], 139) := by decide +kernel
theorem dl_172 : decode code 172 = .ok (.aload_n 1, 1) := by decide +kernel
theorem dl_173 : decode code 173 = .ok (.aload_n 0, 1) := by decide +kernel
theorem dl_174 : decode code 174 = .ok (.iload_n 3, 1) := by decide +kernel
theorem dl_175 : decode code 175 = .ok (.iconst 1, 1) := by decide +kernel
theorem dl_176 : decode code 176 = .ok (.iadd, 1) := by decide +kernel
theorem dl_177 : decode code 177 = .ok (.iaload, 1) := by decide +kernel
theorem dl_178 : decode code 178 = .ok (.aload_n 0, 1) := by decide +kernel
theorem dl_179 : decode code 179 = .ok (.iload_n 3, 1) := by decide +kernel
theorem dl_180 : decode code 180 = .ok (.iconst 2, 1) := by decide +kernel
theorem dl_181 : decode code 181 = .ok (.iadd, 1) := by decide +kernel
theorem dl_182 : decode code 182 = .ok (.iaload, 1) := by decide +kernel
theorem dl_183 : decode code 183 = .ok (.invokevirtual 13, 3) := by decide +kernel
theorem dl_186 : decode code 186 = .ok (.aload_n 2, 1) := by decide +kernel
theorem dl_187 : decode code 187 = .ok (.aload_n 0, 1) := by decide +kernel
theorem dl_188 : decode code 188 = .ok (.iload_n 3, 1) := by decide +kernel
theorem dl_189 : decode code 189 = .ok (.iconst 1, 1) := by decide +kernel
theorem dl_190 : decode code 190 = .ok (.iadd, 1) := by decide +kernel
theorem dl_191 : decode code 191 = .ok (.iaload, 1) := by decide +kernel
theorem dl_192 : decode code 192 = .ok (.aload_n 0, 1) := by decide +kernel
theorem dl_193 : decode code 193 = .ok (.iload_n 3, 1) := by decide +kernel
theorem dl_194 : decode code 194 = .ok (.iconst 2, 1) := by decide +kernel
theorem dl_195 : decode code 195 = .ok (.iadd, 1) := by decide +kernel
theorem dl_196 : decode code 196 = .ok (.iaload, 1) := by decide +kernel
theorem dl_197 : decode code 197 = .ok (.invokevirtual 17, 3) := by decide +kernel
theorem dl_200 : decode code 200 = .ok (.if_icmp .eq 747, 3) := by decide +kernel
theorem dl_203 : decode code 203 = .ok (.iconst 0, 1) := by decide +kernel
theorem dl_204 : decode code 204 = .ok (.ireturn, 1) := by decide +kernel
theorem dl_205 : decode code 205 = .ok (.aload_n 1, 1) := by decide +kernel
theorem dl_206 : decode code 206 = .ok (.aload_n 0, 1) := by decide +kernel
theorem dl_207 : decode code 207 = .ok (.iload_n 3, 1) := by decide +kernel
theorem dl_208 : decode code 208 = .ok (.iconst 1, 1) := by decide +kernel
theorem dl_209 : decode code 209 = .ok (.iadd, 1) := by decide +kernel
theorem dl_210 : decode code 210 = .ok (.iaload, 1) := by decide +kernel
theorem dl_211 : decode code 211 = .ok (.invokevirtual 18, 3) := by decide +kernel
theorem dl_214 : decode code 214 = .ok (.aload_n 2, 1) := by decide +kernel
theorem dl_215 : decode code 215 = .ok (.aload_n 0, 1) := by decide +kernel
theorem dl_216 : decode code 216 = .ok (.iload_n 3, 1) := by decide +kernel
theorem dl_217 : decode code 217 = .ok (.iconst 1, 1) := by decide +kernel
theorem dl_218 : decode code 218 = .ok (.iadd, 1) := by decide +kernel
theorem dl_219 : decode code 219 = .ok (.iaload, 1) := by decide +kernel
theorem dl_220 : decode code 220 = .ok (.invokevirtual 22, 3) := by decide +kernel
theorem dl_223 : decode code 223 = .ok (.if_icmp .eq 724, 3) := by decide +kernel
theorem dl_226 : decode code 226 = .ok (.iconst 0, 1) := by decide +kernel
theorem dl_227 : decode code 227 = .ok (.ireturn, 1) := by decide +kernel
theorem dl_228 : decode code 228 = .ok (.aload_n 1, 1) := by decide +kernel
theorem dl_229 : decode code 229 = .ok (.aload_n 0, 1) := by decide +kernel
theorem dl_230 : decode code 230 = .ok (.iload_n 3, 1) := by decide +kernel
theorem dl_231 : decode code 231 = .ok (.iconst 1, 1) := by decide +kernel
theorem dl_232 : decode code 232 = .ok (.iadd, 1) := by decide +kernel
theorem dl_233 : decode code 233 = .ok (.iaload, 1) := by decide +kernel
theorem dl_234 : decode code 234 = .ok (.aload_n 0, 1) := by decide +kernel
theorem dl_235 : decode code 235 = .ok (.iload_n 3, 1) := by decide +kernel
theorem dl_236 : decode code 236 = .ok (.iconst 2, 1) := by decide +kernel
theorem dl_237 : decode code 237 = .ok (.iadd, 1) := by decide +kernel
theorem dl_238 : decode code 238 = .ok (.iaload, 1) := by decide +kernel
theorem dl_239 : decode code 239 = .ok (.invokevirtual 23, 3) := by decide +kernel
theorem dl_242 : decode code 242 = .ok (.aload_n 2, 1) := by decide +kernel
theorem dl_243 : decode code 243 = .ok (.aload_n 0, 1) := by decide +kernel
theorem dl_244 : decode code 244 = .ok (.iload_n 3, 1) := by decide +kernel
theorem dl_245 : decode code 245 = .ok (.iconst 1, 1) := by decide +kernel
theorem dl_246 : decode code 246 = .ok (.iadd, 1) := by decide +kernel
theorem dl_247 : decode code 247 = .ok (.iaload, 1) := by decide +kernel
theorem dl_248 : decode code 248 = .ok (.aload_n 0, 1) := by decide +kernel
theorem dl_249 : decode code 249 = .ok (.iload_n 3, 1) := by decide +kernel
theorem dl_250 : decode code 250 = .ok (.iconst 2, 1) := by decide +kernel
theorem dl_251 : decode code 251 = .ok (.iadd, 1) := by decide +kernel
theorem dl_252 : decode code 252 = .ok (.iaload, 1) := by decide +kernel
theorem dl_253 : decode code 253 = .ok (.invokevirtual 26, 3) := by decide +kernel
theorem dl_256 : decode code 256 = .ok (.if_icmp .eq 691, 3) := by decide +kernel
theorem dl_259 : decode code 259 = .ok (.iconst 0, 1) := by decide +kernel
theorem dl_260 : decode code 260 = .ok (.ireturn, 1) := by decide +kernel
theorem dl_261 : decode code 261 = .ok (.aload_n 1, 1) := by decide +kernel
theorem dl_262 : decode code 262 = .ok (.aload_n 0, 1) := by decide +kernel
theorem dl_263 : decode code 263 = .ok (.iload_n 3, 1) := by decide +kernel
theorem dl_264 : decode code 264 = .ok (.iconst 1, 1) := by decide +kernel
theorem dl_265 : decode code 265 = .ok (.iadd, 1) := by decide +kernel
theorem dl_266 : decode code 266 = .ok (.iaload, 1) := by decide +kernel
theorem dl_267 : decode code 267 = .ok (.aload_n 0, 1) := by decide +kernel
theorem dl_268 : decode code 268 = .ok (.iload_n 3, 1) := by decide +kernel
theorem dl_269 : decode code 269 = .ok (.iconst 2, 1) := by decide +kernel
theorem dl_270 : decode code 270 = .ok (.iadd, 1) := by decide +kernel
theorem dl_271 : decode code 271 = .ok (.iaload, 1) := by decide +kernel
theorem dl_272 : decode code 272 = .ok (.invokevirtual 27, 3) := by decide +kernel
theorem dl_275 : decode code 275 = .ok (.aload_n 2, 1) := by decide +kernel
theorem dl_276 : decode code 276 = .ok (.aload_n 0, 1) := by decide +kernel
theorem dl_277 : decode code 277 = .ok (.iload_n 3, 1) := by decide +kernel
theorem dl_278 : decode code 278 = .ok (.iconst 1, 1) := by decide +kernel
theorem dl_279 : decode code 279 = .ok (.iadd, 1) := by decide +kernel
theorem dl_280 : decode code 280 = .ok (.iaload, 1) := by decide +kernel
theorem dl_281 : decode code 281 = .ok (.aload_n 0, 1) := by decide +kernel
theorem dl_282 : decode code 282 = .ok (.iload_n 3, 1) := by decide +kernel
theorem dl_283 : decode code 283 = .ok (.iconst 2, 1) := by decide +kernel
theorem dl_284 : decode code 284 = .ok (.iadd, 1) := by decide +kernel
theorem dl_285 : decode code 285 = .ok (.iaload, 1) := by decide +kernel
theorem dl_286 : decode code 286 = .ok (.invokevirtual 30, 3) := by decide +kernel
theorem dl_289 : decode code 289 = .ok (.if_icmp .eq 658, 3) := by decide +kernel
theorem dl_292 : decode code 292 = .ok (.iconst 0, 1) := by decide +kernel
theorem dl_293 : decode code 293 = .ok (.ireturn, 1) := by decide +kernel
theorem dl_294 : decode code 294 = .ok (.aload_n 1, 1) := by decide +kernel
theorem dl_295 : decode code 295 = .ok (.aload_n 0, 1) := by decide +kernel
theorem dl_296 : decode code 296 = .ok (.iload_n 3, 1) := by decide +kernel
theorem dl_297 : decode code 297 = .ok (.iconst 1, 1) := by decide +kernel
theorem dl_298 : decode code 298 = .ok (.iadd, 1) := by decide +kernel
theorem dl_299 : decode code 299 = .ok (.iaload, 1) := by decide +kernel
theorem dl_300 : decode code 300 = .ok (.invokevirtual 31, 3) := by decide +kernel
theorem dl_303 : decode code 303 = .ok (.aload_n 2, 1) := by decide +kernel
theorem dl_304 : decode code 304 = .ok (.aload_n 0, 1) := by decide +kernel
theorem dl_305 : decode code 305 = .ok (.iload_n 3, 1) := by decide +kernel
theorem dl_306 : decode code 306 = .ok (.iconst 1, 1) := by decide +kernel
theorem dl_307 : decode code 307 = .ok (.iadd, 1) := by decide +kernel
theorem dl_308 : decode code 308 = .ok (.iaload, 1) := by decide +kernel
theorem dl_309 : decode code 309 = .ok (.invokevirtual 34, 3) := by decide +kernel
theorem dl_312 : decode code 312 = .ok (.if_icmp .eq 635, 3) := by decide +kernel
theorem dl_315 : decode code 315 = .ok (.iconst 0, 1) := by decide +kernel
theorem dl_316 : decode code 316 = .ok (.ireturn, 1) := by decide +kernel
theorem dl_317 : decode code 317 = .ok (.aload_n 1, 1) := by decide +kernel
theorem dl_318 : decode code 318 = .ok (.invokevirtual 35, 3) := by decide +kernel
theorem dl_321 : decode code 321 = .ok (.aload_n 2, 1) := by decide +kernel
theorem dl_322 : decode code 322 = .ok (.invokevirtual 39, 3) := by decide +kernel
theorem dl_325 : decode code 325 = .ok (.if_icmp .eq 622, 3) := by decide +kernel
theorem dl_328 : decode code 328 = .ok (.iconst 0, 1) := by decide +kernel
theorem dl_329 : decode code 329 = .ok (.ireturn, 1) := by decide +kernel
theorem dl_330 : decode code 330 = .ok (.aload_n 1, 1) := by decide +kernel
theorem dl_331 : decode code 331 = .ok (.invokevirtual 40, 3) := by decide +kernel
theorem dl_334 : decode code 334 = .ok (.aload_n 2, 1) := by decide +kernel
theorem dl_335 : decode code 335 = .ok (.invokevirtual 43, 3) := by decide +kernel
theorem dl_338 : decode code 338 = .ok (.if_icmp .eq 609, 3) := by decide +kernel
theorem dl_341 : decode code 341 = .ok (.iconst 0, 1) := by decide +kernel
theorem dl_342 : decode code 342 = .ok (.ireturn, 1) := by decide +kernel
theorem dl_343 : decode code 343 = .ok (.aload_n 1, 1) := by decide +kernel
theorem dl_344 : decode code 344 = .ok (.aload_n 0, 1) := by decide +kernel
theorem dl_345 : decode code 345 = .ok (.iload_n 3, 1) := by decide +kernel
theorem dl_346 : decode code 346 = .ok (.iconst 1, 1) := by decide +kernel
theorem dl_347 : decode code 347 = .ok (.iadd, 1) := by decide +kernel
theorem dl_348 : decode code 348 = .ok (.iaload, 1) := by decide +kernel
theorem dl_349 : decode code 349 = .ok (.invokevirtual 44, 3) := by decide +kernel
theorem dl_352 : decode code 352 = .ok (.aload_n 2, 1) := by decide +kernel
theorem dl_353 : decode code 353 = .ok (.aload_n 0, 1) := by decide +kernel
theorem dl_354 : decode code 354 = .ok (.iload_n 3, 1) := by decide +kernel
theorem dl_355 : decode code 355 = .ok (.iconst 1, 1) := by decide +kernel
theorem dl_356 : decode code 356 = .ok (.iadd, 1) := by decide +kernel
theorem dl_357 : decode code 357 = .ok (.iaload, 1) := by decide +kernel
theorem dl_358 : decode code 358 = .ok (.invokevirtual 47, 3) := by decide +kernel
theorem dl_361 : decode code 361 = .ok (.if_icmp .eq 586, 3) := by decide +kernel
theorem dl_364 : decode code 364 = .ok (.iconst 0, 1) := by decide +kernel
theorem dl_365 : decode code 365 = .ok (.ireturn, 1) := by decide +kernel
theorem dl_366 : decode code 366 = .ok (.aload_n 1, 1) := by decide +kernel
theorem dl_367 : decode code 367 = .ok (.aload_n 0, 1) := by decide +kernel
theorem dl_368 : decode code 368 = .ok (.iload_n 3, 1) := by decide +kernel
theorem dl_369 : decode code 369 = .ok (.iconst 1, 1) := by decide +kernel
theorem dl_370 : decode code 370 = .ok (.iadd, 1) := by decide +kernel
theorem dl_371 : decode code 371 = .ok (.iaload, 1) := by decide +kernel
theorem dl_372 : decode code 372 = .ok (.aload_n 0, 1) := by decide +kernel
theorem dl_373 : decode code 373 = .ok (.iload_n 3, 1) := by decide +kernel
theorem dl_374 : decode code 374 = .ok (.iconst 2, 1) := by decide +kernel
theorem dl_375 : decode code 375 = .ok (.iadd, 1) := by decide +kernel
theorem dl_376 : decode code 376 = .ok (.iaload, 1) := by decide +kernel
theorem dl_377 : decode code 377 = .ok (.invokevirtual 48, 3) := by decide +kernel
theorem dl_380 : decode code 380 = .ok (.aload_n 2, 1) := by decide +kernel
theorem dl_381 : decode code 381 = .ok (.aload_n 0, 1) := by decide +kernel
theorem dl_382 : decode code 382 = .ok (.iload_n 3, 1) := by decide +kernel
theorem dl_383 : decode code 383 = .ok (.iconst 1, 1) := by decide +kernel
theorem dl_384 : decode code 384 = .ok (.iadd, 1) := by decide +kernel
theorem dl_385 : decode code 385 = .ok (.iaload, 1) := by decide +kernel
theorem dl_386 : decode code 386 = .ok (.aload_n 0, 1) := by decide +kernel
theorem dl_387 : decode code 387 = .ok (.iload_n 3, 1) := by decide +kernel
theorem dl_388 : decode code 388 = .ok (.iconst 2, 1) := by decide +kernel
theorem dl_389 : decode code 389 = .ok (.iadd, 1) := by decide +kernel
theorem dl_390 : decode code 390 = .ok (.iaload, 1) := by decide +kernel
theorem dl_391 : decode code 391 = .ok (.invokevirtual 51, 3) := by decide +kernel
theorem dl_394 : decode code 394 = .ok (.if_icmp .eq 553, 3) := by decide +kernel
theorem dl_397 : decode code 397 = .ok (.iconst 0, 1) := by decide +kernel
theorem dl_398 : decode code 398 = .ok (.ireturn, 1) := by decide +kernel
theorem dl_399 : decode code 399 = .ok (.aload_n 1, 1) := by decide +kernel
theorem dl_400 : decode code 400 = .ok (.invokevirtual 52, 3) := by decide +kernel
theorem dl_403 : decode code 403 = .ok (.aload_n 2, 1) := by decide +kernel
theorem dl_404 : decode code 404 = .ok (.invokevirtual 55, 3) := by decide +kernel
theorem dl_407 : decode code 407 = .ok (.if_icmp .eq 540, 3) := by decide +kernel
theorem dl_410 : decode code 410 = .ok (.iconst 0, 1) := by decide +kernel
theorem dl_411 : decode code 411 = .ok (.ireturn, 1) := by decide +kernel
theorem dl_412 : decode code 412 = .ok (.aload_n 1, 1) := by decide +kernel
theorem dl_413 : decode code 413 = .ok (.invokevirtual 56, 3) := by decide +kernel
theorem dl_416 : decode code 416 = .ok (.aload_n 2, 1) := by decide +kernel
theorem dl_417 : decode code 417 = .ok (.invokevirtual 59, 3) := by decide +kernel
theorem dl_420 : decode code 420 = .ok (.if_icmp .eq 527, 3) := by decide +kernel
theorem dl_423 : decode code 423 = .ok (.iconst 0, 1) := by decide +kernel
theorem dl_424 : decode code 424 = .ok (.ireturn, 1) := by decide +kernel
theorem dl_425 : decode code 425 = .ok (.aload_n 1, 1) := by decide +kernel
theorem dl_426 : decode code 426 = .ok (.aload_n 0, 1) := by decide +kernel
theorem dl_427 : decode code 427 = .ok (.iload_n 3, 1) := by decide +kernel
theorem dl_428 : decode code 428 = .ok (.iconst 1, 1) := by decide +kernel
theorem dl_429 : decode code 429 = .ok (.iadd, 1) := by decide +kernel
theorem dl_430 : decode code 430 = .ok (.iaload, 1) := by decide +kernel
theorem dl_431 : decode code 431 = .ok (.aload_n 0, 1) := by decide +kernel
theorem dl_432 : decode code 432 = .ok (.iload_n 3, 1) := by decide +kernel
theorem dl_433 : decode code 433 = .ok (.iconst 2, 1) := by decide +kernel
theorem dl_434 : decode code 434 = .ok (.iadd, 1) := by decide +kernel
theorem dl_435 : decode code 435 = .ok (.iaload, 1) := by decide +kernel
theorem dl_436 : decode code 436 = .ok (.invokevirtual 60, 3) := by decide +kernel
theorem dl_439 : decode code 439 = .ok (.aload_n 2, 1) := by decide +kernel
theorem dl_440 : decode code 440 = .ok (.aload_n 0, 1) := by decide +kernel
theorem dl_441 : decode code 441 = .ok (.iload_n 3, 1) := by decide +kernel
theorem dl_442 : decode code 442 = .ok (.iconst 1, 1) := by decide +kernel
theorem dl_443 : decode code 443 = .ok (.iadd, 1) := by decide +kernel
theorem dl_444 : decode code 444 = .ok (.iaload, 1) := by decide +kernel
theorem dl_445 : decode code 445 = .ok (.aload_n 0, 1) := by decide +kernel
theorem dl_446 : decode code 446 = .ok (.iload_n 3, 1) := by decide +kernel
theorem dl_447 : decode code 447 = .ok (.iconst 2, 1) := by decide +kernel
theorem dl_448 : decode code 448 = .ok (.iadd, 1) := by decide +kernel
theorem dl_449 : decode code 449 = .ok (.iaload, 1) := by decide +kernel
theorem dl_450 : decode code 450 = .ok (.invokevirtual 63, 3) := by decide +kernel
theorem dl_453 : decode code 453 = .ok (.if_icmp .eq 494, 3) := by decide +kernel
theorem dl_456 : decode code 456 = .ok (.iconst 0, 1) := by decide +kernel
theorem dl_457 : decode code 457 = .ok (.ireturn, 1) := by decide +kernel
theorem dl_458 : decode code 458 = .ok (.aload_n 1, 1) := by decide +kernel
theorem dl_459 : decode code 459 = .ok (.aload_n 0, 1) := by decide +kernel
theorem dl_460 : decode code 460 = .ok (.iload_n 3, 1) := by decide +kernel
theorem dl_461 : decode code 461 = .ok (.iconst 1, 1) := by decide +kernel
theorem dl_462 : decode code 462 = .ok (.iadd, 1) := by decide +kernel
theorem dl_463 : decode code 463 = .ok (.iaload, 1) := by decide +kernel
theorem dl_464 : decode code 464 = .ok (.invokevirtual 64, 3) := by decide +kernel
theorem dl_467 : decode code 467 = .ok (.aload_n 2, 1) := by decide +kernel
theorem dl_468 : decode code 468 = .ok (.aload_n 0, 1) := by decide +kernel
theorem dl_469 : decode code 469 = .ok (.iload_n 3, 1) := by decide +kernel
theorem dl_470 : decode code 470 = .ok (.iconst 1, 1) := by decide +kernel
theorem dl_471 : decode code 471 = .ok (.iadd, 1) := by decide +kernel
theorem dl_472 : decode code 472 = .ok (.iaload, 1) := by decide +kernel
theorem dl_473 : decode code 473 = .ok (.invokevirtual 67, 3) := by decide +kernel
theorem dl_476 : decode code 476 = .ok (.if_icmp .eq 471, 3) := by decide +kernel
theorem dl_479 : decode code 479 = .ok (.iconst 0, 1) := by decide +kernel
theorem dl_480 : decode code 480 = .ok (.ireturn, 1) := by decide +kernel
theorem dl_481 : decode code 481 = .ok (.aload_n 1, 1) := by decide +kernel
theorem dl_482 : decode code 482 = .ok (.aload_n 0, 1) := by decide +kernel
theorem dl_483 : decode code 483 = .ok (.iload_n 3, 1) := by decide +kernel
theorem dl_484 : decode code 484 = .ok (.iconst 1, 1) := by decide +kernel
theorem dl_485 : decode code 485 = .ok (.iadd, 1) := by decide +kernel
theorem dl_486 : decode code 486 = .ok (.iaload, 1) := by decide +kernel
theorem dl_487 : decode code 487 = .ok (.invokevirtual 68, 3) := by decide +kernel
theorem dl_490 : decode code 490 = .ok (.aload_n 2, 1) := by decide +kernel
theorem dl_491 : decode code 491 = .ok (.aload_n 0, 1) := by decide +kernel
theorem dl_492 : decode code 492 = .ok (.iload_n 3, 1) := by decide +kernel
theorem dl_493 : decode code 493 = .ok (.iconst 1, 1) := by decide +kernel
theorem dl_494 : decode code 494 = .ok (.iadd, 1) := by decide +kernel
theorem dl_495 : decode code 495 = .ok (.iaload, 1) := by decide +kernel
theorem dl_496 : decode code 496 = .ok (.invokevirtual 71, 3) := by decide +kernel
theorem dl_499 : decode code 499 = .ok (.if_icmp .eq 448, 3) := by decide +kernel
theorem dl_502 : decode code 502 = .ok (.iconst 0, 1) := by decide +kernel
theorem dl_503 : decode code 503 = .ok (.ireturn, 1) := by decide +kernel
theorem dl_504 : decode code 504 = .ok (.aload_n 1, 1) := by decide +kernel
theorem dl_505 : decode code 505 = .ok (.aload_n 0, 1) := by decide +kernel
theorem dl_506 : decode code 506 = .ok (.iload_n 3, 1) := by decide +kernel
theorem dl_507 : decode code 507 = .ok (.iconst 1, 1) := by decide +kernel
theorem dl_508 : decode code 508 = .ok (.iadd, 1) := by decide +kernel
theorem dl_509 : decode code 509 = .ok (.iaload, 1) := by decide +kernel
theorem dl_510 : decode code 510 = .ok (.invokevirtual 72, 3) := by decide +kernel
theorem dl_513 : decode code 513 = .ok (.aload_n 2, 1) := by decide +kernel
theorem dl_514 : decode code 514 = .ok (.aload_n 0, 1) := by decide +kernel
theorem dl_515 : decode code 515 = .ok (.iload_n 3, 1) := by decide +kernel
theorem dl_516 : decode code 516 = .ok (.iconst 1, 1) := by decide +kernel
theorem dl_517 : decode code 517 = .ok (.iadd, 1) := by decide +kernel
theorem dl_518 : decode code 518 = .ok (.iaload, 1) := by decide +kernel
theorem dl_519 : decode code 519 = .ok (.invokevirtual 75, 3) := by decide +kernel
theorem dl_522 : decode code 522 = .ok (.if_icmp .eq 425, 3) := by decide +kernel
theorem dl_525 : decode code 525 = .ok (.iconst 0, 1) := by decide +kernel
theorem dl_526 : decode code 526 = .ok (.ireturn, 1) := by decide +kernel
theorem dl_527 : decode code 527 = .ok (.aload_n 1, 1) := by decide +kernel
theorem dl_528 : decode code 528 = .ok (.invokevirtual 76, 3) := by decide +kernel
theorem dl_531 : decode code 531 = .ok (.aload_n 2, 1) := by decide +kernel
theorem dl_532 : decode code 532 = .ok (.invokevirtual 79, 3) := by decide +kernel
theorem dl_535 : decode code 535 = .ok (.if_icmp .eq 412, 3) := by decide +kernel
theorem dl_538 : decode code 538 = .ok (.iconst 0, 1) := by decide +kernel
theorem dl_539 : decode code 539 = .ok (.ireturn, 1) := by decide +kernel
theorem dl_540 : decode code 540 = .ok (.aload_n 1, 1) := by decide +kernel
theorem dl_541 : decode code 541 = .ok (.aload_n 0, 1) := by decide +kernel
theorem dl_542 : decode code 542 = .ok (.iload_n 3, 1) := by decide +kernel
theorem dl_543 : decode code 543 = .ok (.iconst 1, 1) := by decide +kernel
theorem dl_544 : decode code 544 = .ok (.iadd, 1) := by decide +kernel
theorem dl_545 : decode code 545 = .ok (.iaload, 1) := by decide +kernel
theorem dl_546 : decode code 546 = .ok (.invokevirtual 80, 3) := by decide +kernel
theorem dl_549 : decode code 549 = .ok (.aload_n 2, 1) := by decide +kernel
theorem dl_550 : decode code 550 = .ok (.aload_n 0, 1) := by decide +kernel
theorem dl_551 : decode code 551 = .ok (.iload_n 3, 1) := by decide +kernel
theorem dl_552 : decode code 552 = .ok (.iconst 1, 1) := by decide +kernel
theorem dl_553 : decode code 553 = .ok (.iadd, 1) := by decide +kernel
theorem dl_554 : decode code 554 = .ok (.iaload, 1) := by decide +kernel
theorem dl_555 : decode code 555 = .ok (.invokevirtual 83, 3) := by decide +kernel
theorem dl_558 : decode code 558 = .ok (.if_icmp .eq 389, 3) := by decide +kernel
theorem dl_561 : decode code 561 = .ok (.iconst 0, 1) := by decide +kernel
theorem dl_562 : decode code 562 = .ok (.ireturn, 1) := by decide +kernel
theorem dl_563 : decode code 563 = .ok (.aload_n 1, 1) := by decide +kernel
theorem dl_564 : decode code 564 = .ok (.aload_n 0, 1) := by decide +kernel
theorem dl_565 : decode code 565 = .ok (.iload_n 3, 1) := by decide +kernel
theorem dl_566 : decode code 566 = .ok (.iconst 1, 1) := by decide +kernel
theorem dl_567 : decode code 567 = .ok (.iadd, 1) := by decide +kernel
theorem dl_568 : decode code 568 = .ok (.iaload, 1) := by decide +kernel
theorem dl_569 : decode code 569 = .ok (.aload_n 0, 1) := by decide +kernel
theorem dl_570 : decode code 570 = .ok (.iload_n 3, 1) := by decide +kernel
theorem dl_571 : decode code 571 = .ok (.iconst 2, 1) := by decide +kernel
theorem dl_572 : decode code 572 = .ok (.iadd, 1) := by decide +kernel
theorem dl_573 : decode code 573 = .ok (.iaload, 1) := by decide +kernel
theorem dl_574 : decode code 574 = .ok (.aload_n 0, 1) := by decide +kernel
theorem dl_575 : decode code 575 = .ok (.iload_n 3, 1) := by decide +kernel
theorem dl_576 : decode code 576 = .ok (.iconst 3, 1) := by decide +kernel
theorem dl_577 : decode code 577 = .ok (.iadd, 1) := by decide +kernel
theorem dl_578 : decode code 578 = .ok (.iaload, 1) := by decide +kernel
theorem dl_579 : decode code 579 = .ok (.aload_n 0, 1) := by decide +kernel
theorem dl_580 : decode code 580 = .ok (.iload_n 3, 1) := by decide +kernel
theorem dl_581 : decode code 581 = .ok (.iconst 4, 1) := by decide +kernel
theorem dl_582 : decode code 582 = .ok (.iadd, 1) := by decide +kernel
theorem dl_583 : decode code 583 = .ok (.iaload, 1) := by decide +kernel
theorem dl_584 : decode code 584 = .ok (.aload_n 0, 1) := by decide +kernel
theorem dl_585 : decode code 585 = .ok (.iload_n 3, 1) := by decide +kernel
theorem dl_586 : decode code 586 = .ok (.iconst 5, 1) := by decide +kernel
theorem dl_587 : decode code 587 = .ok (.iadd, 1) := by decide +kernel
theorem dl_588 : decode code 588 = .ok (.iaload, 1) := by decide +kernel
theorem dl_589 : decode code 589 = .ok (.invokevirtual 84, 3) := by decide +kernel
theorem dl_592 : decode code 592 = .ok (.aload_n 2, 1) := by decide +kernel
theorem dl_593 : decode code 593 = .ok (.aload_n 0, 1) := by decide +kernel
theorem dl_594 : decode code 594 = .ok (.iload_n 3, 1) := by decide +kernel
theorem dl_595 : decode code 595 = .ok (.iconst 1, 1) := by decide +kernel
theorem dl_596 : decode code 596 = .ok (.iadd, 1) := by decide +kernel
theorem dl_597 : decode code 597 = .ok (.iaload, 1) := by decide +kernel
theorem dl_598 : decode code 598 = .ok (.aload_n 0, 1) := by decide +kernel
theorem dl_599 : decode code 599 = .ok (.iload_n 3, 1) := by decide +kernel
theorem dl_600 : decode code 600 = .ok (.iconst 2, 1) := by decide +kernel
theorem dl_601 : decode code 601 = .ok (.iadd, 1) := by decide +kernel
theorem dl_602 : decode code 602 = .ok (.iaload, 1) := by decide +kernel
theorem dl_603 : decode code 603 = .ok (.aload_n 0, 1) := by decide +kernel
theorem dl_604 : decode code 604 = .ok (.iload_n 3, 1) := by decide +kernel
theorem dl_605 : decode code 605 = .ok (.iconst 3, 1) := by decide +kernel
theorem dl_606 : decode code 606 = .ok (.iadd, 1) := by decide +kernel
theorem dl_607 : decode code 607 = .ok (.iaload, 1) := by decide +kernel
theorem dl_608 : decode code 608 = .ok (.aload_n 0, 1) := by decide +kernel
theorem dl_609 : decode code 609 = .ok (.iload_n 3, 1) := by decide +kernel
theorem dl_610 : decode code 610 = .ok (.iconst 4, 1) := by decide +kernel
theorem dl_611 : decode code 611 = .ok (.iadd, 1) := by decide +kernel
theorem dl_612 : decode code 612 = .ok (.iaload, 1) := by decide +kernel
theorem dl_613 : decode code 613 = .ok (.aload_n 0, 1) := by decide +kernel
theorem dl_614 : decode code 614 = .ok (.iload_n 3, 1) := by decide +kernel
theorem dl_615 : decode code 615 = .ok (.iconst 5, 1) := by decide +kernel
theorem dl_616 : decode code 616 = .ok (.iadd, 1) := by decide +kernel
theorem dl_617 : decode code 617 = .ok (.iaload, 1) := by decide +kernel
theorem dl_618 : decode code 618 = .ok (.invokevirtual 88, 3) := by decide +kernel
theorem dl_621 : decode code 621 = .ok (.if_icmp .eq 326, 3) := by decide +kernel
theorem dl_624 : decode code 624 = .ok (.iconst 0, 1) := by decide +kernel
theorem dl_625 : decode code 625 = .ok (.ireturn, 1) := by decide +kernel
theorem dl_626 : decode code 626 = .ok (.aload_n 1, 1) := by decide +kernel
theorem dl_627 : decode code 627 = .ok (.aload_n 0, 1) := by decide +kernel
theorem dl_628 : decode code 628 = .ok (.iload_n 3, 1) := by decide +kernel
theorem dl_629 : decode code 629 = .ok (.iconst 1, 1) := by decide +kernel
theorem dl_630 : decode code 630 = .ok (.iadd, 1) := by decide +kernel
theorem dl_631 : decode code 631 = .ok (.iaload, 1) := by decide +kernel
theorem dl_632 : decode code 632 = .ok (.aload_n 0, 1) := by decide +kernel
theorem dl_633 : decode code 633 = .ok (.iload_n 3, 1) := by decide +kernel
theorem dl_634 : decode code 634 = .ok (.iconst 2, 1) := by decide +kernel
theorem dl_635 : decode code 635 = .ok (.iadd, 1) := by decide +kernel
theorem dl_636 : decode code 636 = .ok (.iaload, 1) := by decide +kernel
theorem dl_637 : decode code 637 = .ok (.aload_n 0, 1) := by decide +kernel
theorem dl_638 : decode code 638 = .ok (.iload_n 3, 1) := by decide +kernel
theorem dl_639 : decode code 639 = .ok (.iconst 3, 1) := by decide +kernel
theorem dl_640 : decode code 640 = .ok (.iadd, 1) := by decide +kernel
theorem dl_641 : decode code 641 = .ok (.iaload, 1) := by decide +kernel
theorem dl_642 : decode code 642 = .ok (.aload_n 0, 1) := by decide +kernel
theorem dl_643 : decode code 643 = .ok (.iload_n 3, 1) := by decide +kernel
theorem dl_644 : decode code 644 = .ok (.iconst 4, 1) := by decide +kernel
theorem dl_645 : decode code 645 = .ok (.iadd, 1) := by decide +kernel
theorem dl_646 : decode code 646 = .ok (.iaload, 1) := by decide +kernel
theorem dl_647 : decode code 647 = .ok (.aload_n 0, 1) := by decide +kernel
theorem dl_648 : decode code 648 = .ok (.iload_n 3, 1) := by decide +kernel
theorem dl_649 : decode code 649 = .ok (.iconst 5, 1) := by decide +kernel
theorem dl_650 : decode code 650 = .ok (.iadd, 1) := by decide +kernel
theorem dl_651 : decode code 651 = .ok (.iaload, 1) := by decide +kernel
theorem dl_652 : decode code 652 = .ok (.invokevirtual 89, 3) := by decide +kernel
theorem dl_655 : decode code 655 = .ok (.aload_n 2, 1) := by decide +kernel
theorem dl_656 : decode code 656 = .ok (.aload_n 0, 1) := by decide +kernel
theorem dl_657 : decode code 657 = .ok (.iload_n 3, 1) := by decide +kernel
theorem dl_658 : decode code 658 = .ok (.iconst 1, 1) := by decide +kernel
theorem dl_659 : decode code 659 = .ok (.iadd, 1) := by decide +kernel
theorem dl_660 : decode code 660 = .ok (.iaload, 1) := by decide +kernel
theorem dl_661 : decode code 661 = .ok (.aload_n 0, 1) := by decide +kernel
theorem dl_662 : decode code 662 = .ok (.iload_n 3, 1) := by decide +kernel
theorem dl_663 : decode code 663 = .ok (.iconst 2, 1) := by decide +kernel
theorem dl_664 : decode code 664 = .ok (.iadd, 1) := by decide +kernel
theorem dl_665 : decode code 665 = .ok (.iaload, 1) := by decide +kernel
theorem dl_666 : decode code 666 = .ok (.aload_n 0, 1) := by decide +kernel
theorem dl_667 : decode code 667 = .ok (.iload_n 3, 1) := by decide +kernel
theorem dl_668 : decode code 668 = .ok (.iconst 3, 1) := by decide +kernel
theorem dl_669 : decode code 669 = .ok (.iadd, 1) := by decide +kernel
theorem dl_670 : decode code 670 = .ok (.iaload, 1) := by decide +kernel
theorem dl_671 : decode code 671 = .ok (.aload_n 0, 1) := by decide +kernel
theorem dl_672 : decode code 672 = .ok (.iload_n 3, 1) := by decide +kernel
theorem dl_673 : decode code 673 = .ok (.iconst 4, 1) := by decide +kernel
theorem dl_674 : decode code 674 = .ok (.iadd, 1) := by decide +kernel
theorem dl_675 : decode code 675 = .ok (.iaload, 1) := by decide +kernel
theorem dl_676 : decode code 676 = .ok (.aload_n 0, 1) := by decide +kernel
theorem dl_677 : decode code 677 = .ok (.iload_n 3, 1) := by decide +kernel
theorem dl_678 : decode code 678 = .ok (.iconst 5, 1) := by decide +kernel
theorem dl_679 : decode code 679 = .ok (.iadd, 1) := by decide +kernel
theorem dl_680 : decode code 680 = .ok (.iaload, 1) := by decide +kernel
theorem dl_681 : decode code 681 = .ok (.invokevirtual 92, 3) := by decide +kernel
theorem dl_684 : decode code 684 = .ok (.if_icmp .eq 263, 3) := by decide +kernel
theorem dl_687 : decode code 687 = .ok (.iconst 0, 1) := by decide +kernel
theorem dl_688 : decode code 688 = .ok (.ireturn, 1) := by decide +kernel
theorem dl_689 : decode code 689 = .ok (.aload_n 1, 1) := by decide +kernel
theorem dl_690 : decode code 690 = .ok (.aload_n 0, 1) := by decide +kernel
theorem dl_691 : decode code 691 = .ok (.iload_n 3, 1) := by decide +kernel
theorem dl_692 : decode code 692 = .ok (.iconst 1, 1) := by decide +kernel
theorem dl_693 : decode code 693 = .ok (.iadd, 1) := by decide +kernel
theorem dl_694 : decode code 694 = .ok (.iaload, 1) := by decide +kernel
theorem dl_695 : decode code 695 = .ok (.invokevirtual 93, 3) := by decide +kernel
theorem dl_698 : decode code 698 = .ok (.aload_n 2, 1) := by decide +kernel
theorem dl_699 : decode code 699 = .ok (.aload_n 0, 1) := by decide +kernel
theorem dl_700 : decode code 700 = .ok (.iload_n 3, 1) := by decide +kernel
theorem dl_701 : decode code 701 = .ok (.iconst 1, 1) := by decide +kernel
theorem dl_702 : decode code 702 = .ok (.iadd, 1) := by decide +kernel
theorem dl_703 : decode code 703 = .ok (.iaload, 1) := by decide +kernel
theorem dl_704 : decode code 704 = .ok (.invokevirtual 96, 3) := by decide +kernel
theorem dl_707 : decode code 707 = .ok (.if_icmp .eq 240, 3) := by decide +kernel
theorem dl_710 : decode code 710 = .ok (.iconst 0, 1) := by decide +kernel
theorem dl_711 : decode code 711 = .ok (.ireturn, 1) := by decide +kernel
theorem dl_712 : decode code 712 = .ok (.aload_n 1, 1) := by decide +kernel
theorem dl_713 : decode code 713 = .ok (.invokevirtual 97, 3) := by decide +kernel
theorem dl_716 : decode code 716 = .ok (.aload_n 2, 1) := by decide +kernel
theorem dl_717 : decode code 717 = .ok (.invokevirtual 100, 3) := by decide +kernel
theorem dl_720 : decode code 720 = .ok (.if_icmp .eq 227, 3) := by decide +kernel
theorem dl_723 : decode code 723 = .ok (.iconst 0, 1) := by decide +kernel
theorem dl_724 : decode code 724 = .ok (.ireturn, 1) := by decide +kernel
theorem dl_725 : decode code 725 = .ok (.aload_n 1, 1) := by decide +kernel
theorem dl_726 : decode code 726 = .ok (.invokevirtual 101, 3) := by decide +kernel
theorem dl_729 : decode code 729 = .ok (.aload_n 2, 1) := by decide +kernel
theorem dl_730 : decode code 730 = .ok (.invokevirtual 104, 3) := by decide +kernel
theorem dl_733 : decode code 733 = .ok (.if_icmp .eq 214, 3) := by decide +kernel
theorem dl_736 : decode code 736 = .ok (.iconst 0, 1) := by decide +kernel
theorem dl_737 : decode code 737 = .ok (.ireturn, 1) := by decide +kernel
theorem dl_738 : decode code 738 = .ok (.aload_n 1, 1) := by decide +kernel
theorem dl_739 : decode code 739 = .ok (.aload_n 0, 1) := by decide +kernel
theorem dl_740 : decode code 740 = .ok (.iload_n 3, 1) := by decide +kernel
theorem dl_741 : decode code 741 = .ok (.iconst 1, 1) := by decide +kernel
theorem dl_742 : decode code 742 = .ok (.iadd, 1) := by decide +kernel
theorem dl_743 : decode code 743 = .ok (.iaload, 1) := by decide +kernel
theorem dl_744 : decode code 744 = .ok (.invokevirtual 105, 3) := by decide +kernel
theorem dl_747 : decode code 747 = .ok (.aload_n 2, 1) := by decide +kernel
theorem dl_748 : decode code 748 = .ok (.aload_n 0, 1) := by decide +kernel
theorem dl_749 : decode code 749 = .ok (.iload_n 3, 1) := by decide +kernel
theorem dl_750 : decode code 750 = .ok (.iconst 1, 1) := by decide +kernel
theorem dl_751 : decode code 751 = .ok (.iadd, 1) := by decide +kernel
theorem dl_752 : decode code 752 = .ok (.iaload, 1) := by decide +kernel
theorem dl_753 : decode code 753 = .ok (.invokevirtual 108, 3) := by decide +kernel
theorem dl_756 : decode code 756 = .ok (.if_icmp .eq 191, 3) := by decide +kernel
theorem dl_759 : decode code 759 = .ok (.iconst 0, 1) := by decide +kernel
theorem dl_760 : decode code 760 = .ok (.ireturn, 1) := by decide +kernel
theorem dl_761 : decode code 761 = .ok (.aload_n 1, 1) := by decide +kernel
theorem dl_762 : decode code 762 = .ok (.aload_n 0, 1) := by decide +kernel
theorem dl_763 : decode code 763 = .ok (.iload_n 3, 1) := by decide +kernel
theorem dl_764 : decode code 764 = .ok (.iconst 1, 1) := by decide +kernel
theorem dl_765 : decode code 765 = .ok (.iadd, 1) := by decide +kernel
theorem dl_766 : decode code 766 = .ok (.iaload, 1) := by decide +kernel
theorem dl_767 : decode code 767 = .ok (.invokevirtual 109, 3) := by decide +kernel
theorem dl_770 : decode code 770 = .ok (.aload_n 2, 1) := by decide +kernel
theorem dl_771 : decode code 771 = .ok (.aload_n 0, 1) := by decide +kernel
theorem dl_772 : decode code 772 = .ok (.iload_n 3, 1) := by decide +kernel
theorem dl_773 : decode code 773 = .ok (.iconst 1, 1) := by decide +kernel
theorem dl_774 : decode code 774 = .ok (.iadd, 1) := by decide +kernel
theorem dl_775 : decode code 775 = .ok (.iaload, 1) := by decide +kernel
theorem dl_776 : decode code 776 = .ok (.invokevirtual 112, 3) := by decide +kernel
theorem dl_779 : decode code 779 = .ok (.if_icmp .eq 168, 3) := by decide +kernel
theorem dl_782 : decode code 782 = .ok (.iconst 0, 1) := by decide +kernel
theorem dl_783 : decode code 783 = .ok (.ireturn, 1) := by decide +kernel
theorem dl_784 : decode code 784 = .ok (.aload_n 1, 1) := by decide +kernel
theorem dl_785 : decode code 785 = .ok (.aload_n 0, 1) := by decide +kernel
theorem dl_786 : decode code 786 = .ok (.iload_n 3, 1) := by decide +kernel
theorem dl_787 : decode code 787 = .ok (.iconst 1, 1) := by decide +kernel
theorem dl_788 : decode code 788 = .ok (.iadd, 1) := by decide +kernel
theorem dl_789 : decode code 789 = .ok (.iaload, 1) := by decide +kernel
theorem dl_790 : decode code 790 = .ok (.aload_n 0, 1) := by decide +kernel
theorem dl_791 : decode code 791 = .ok (.iload_n 3, 1) := by decide +kernel
theorem dl_792 : decode code 792 = .ok (.iconst 2, 1) := by decide +kernel
theorem dl_793 : decode code 793 = .ok (.iadd, 1) := by decide +kernel
theorem dl_794 : decode code 794 = .ok (.iaload, 1) := by decide +kernel
theorem dl_795 : decode code 795 = .ok (.invokevirtual 113, 3) := by decide +kernel
theorem dl_798 : decode code 798 = .ok (.aload_n 2, 1) := by decide +kernel
theorem dl_799 : decode code 799 = .ok (.aload_n 0, 1) := by decide +kernel
theorem dl_800 : decode code 800 = .ok (.iload_n 3, 1) := by decide +kernel
theorem dl_801 : decode code 801 = .ok (.iconst 1, 1) := by decide +kernel
theorem dl_802 : decode code 802 = .ok (.iadd, 1) := by decide +kernel
theorem dl_803 : decode code 803 = .ok (.iaload, 1) := by decide +kernel
theorem dl_804 : decode code 804 = .ok (.aload_n 0, 1) := by decide +kernel
theorem dl_805 : decode code 805 = .ok (.iload_n 3, 1) := by decide +kernel
theorem dl_806 : decode code 806 = .ok (.iconst 2, 1) := by decide +kernel
theorem dl_807 : decode code 807 = .ok (.iadd, 1) := by decide +kernel
theorem dl_808 : decode code 808 = .ok (.iaload, 1) := by decide +kernel
theorem dl_809 : decode code 809 = .ok (.invokevirtual 116, 3) := by decide +kernel
theorem dl_812 : decode code 812 = .ok (.if_icmp .eq 135, 3) := by decide +kernel
theorem dl_815 : decode code 815 = .ok (.iconst 0, 1) := by decide +kernel
theorem dl_816 : decode code 816 = .ok (.ireturn, 1) := by decide +kernel
theorem dl_817 : decode code 817 = .ok (.aload_n 1, 1) := by decide +kernel
theorem dl_818 : decode code 818 = .ok (.aload_n 0, 1) := by decide +kernel
theorem dl_819 : decode code 819 = .ok (.iload_n 3, 1) := by decide +kernel
theorem dl_820 : decode code 820 = .ok (.iconst 1, 1) := by decide +kernel
theorem dl_821 : decode code 821 = .ok (.iadd, 1) := by decide +kernel
theorem dl_822 : decode code 822 = .ok (.iaload, 1) := by decide +kernel
theorem dl_823 : decode code 823 = .ok (.invokevirtual 117, 3) := by decide +kernel
theorem dl_826 : decode code 826 = .ok (.aload_n 2, 1) := by decide +kernel
theorem dl_827 : decode code 827 = .ok (.aload_n 0, 1) := by decide +kernel
theorem dl_828 : decode code 828 = .ok (.iload_n 3, 1) := by decide +kernel
theorem dl_829 : decode code 829 = .ok (.iconst 1, 1) := by decide +kernel
theorem dl_830 : decode code 830 = .ok (.iadd, 1) := by decide +kernel
theorem dl_831 : decode code 831 = .ok (.iaload, 1) := by decide +kernel
theorem dl_832 : decode code 832 = .ok (.invokevirtual 121, 3) := by decide +kernel
theorem dl_835 : decode code 835 = .ok (.lcmp, 1) := by decide +kernel
theorem dl_836 : decode code 836 = .ok (.ifCond .eq 111, 3) := by decide +kernel
theorem dl_839 : decode code 839 = .ok (.iconst 0, 1) := by decide +kernel
theorem dl_840 : decode code 840 = .ok (.ireturn, 1) := by decide +kernel
theorem dl_841 : decode code 841 = .ok (.aload_n 1, 1) := by decide +kernel
theorem dl_842 : decode code 842 = .ok (.aload_n 0, 1) := by decide +kernel
theorem dl_843 : decode code 843 = .ok (.iload_n 3, 1) := by decide +kernel
theorem dl_844 : decode code 844 = .ok (.iconst 1, 1) := by decide +kernel
theorem dl_845 : decode code 845 = .ok (.iadd, 1) := by decide +kernel
theorem dl_846 : decode code 846 = .ok (.iaload, 1) := by decide +kernel
theorem dl_847 : decode code 847 = .ok (.invokevirtual 122, 3) := by decide +kernel
theorem dl_850 : decode code 850 = .ok (.aload_n 2, 1) := by decide +kernel
theorem dl_851 : decode code 851 = .ok (.aload_n 0, 1) := by decide +kernel
theorem dl_852 : decode code 852 = .ok (.iload_n 3, 1) := by decide +kernel
theorem dl_853 : decode code 853 = .ok (.iconst 1, 1) := by decide +kernel
theorem dl_854 : decode code 854 = .ok (.iadd, 1) := by decide +kernel
theorem dl_855 : decode code 855 = .ok (.iaload, 1) := by decide +kernel
theorem dl_856 : decode code 856 = .ok (.invokevirtual 125, 3) := by decide +kernel
theorem dl_859 : decode code 859 = .ok (.if_icmp .eq 88, 3) := by decide +kernel
theorem dl_862 : decode code 862 = .ok (.iconst 0, 1) := by decide +kernel
theorem dl_863 : decode code 863 = .ok (.ireturn, 1) := by decide +kernel
theorem dl_864 : decode code 864 = .ok (.aload_n 1, 1) := by decide +kernel
theorem dl_865 : decode code 865 = .ok (.aload_n 0, 1) := by decide +kernel
theorem dl_866 : decode code 866 = .ok (.iload_n 3, 1) := by decide +kernel
theorem dl_867 : decode code 867 = .ok (.iconst 1, 1) := by decide +kernel
theorem dl_868 : decode code 868 = .ok (.iadd, 1) := by decide +kernel
theorem dl_869 : decode code 869 = .ok (.iaload, 1) := by decide +kernel
theorem dl_870 : decode code 870 = .ok (.invokevirtual 126, 3) := by decide +kernel
theorem dl_873 : decode code 873 = .ok (.aload_n 2, 1) := by decide +kernel
theorem dl_874 : decode code 874 = .ok (.aload_n 0, 1) := by decide +kernel
theorem dl_875 : decode code 875 = .ok (.iload_n 3, 1) := by decide +kernel
theorem dl_876 : decode code 876 = .ok (.iconst 1, 1) := by decide +kernel
theorem dl_877 : decode code 877 = .ok (.iadd, 1) := by decide +kernel
theorem dl_878 : decode code 878 = .ok (.iaload, 1) := by decide +kernel
theorem dl_879 : decode code 879 = .ok (.invokevirtual 129, 3) := by decide +kernel
theorem dl_882 : decode code 882 = .ok (.if_icmp .eq 65, 3) := by decide +kernel
theorem dl_885 : decode code 885 = .ok (.iconst 0, 1) := by decide +kernel
theorem dl_886 : decode code 886 = .ok (.ireturn, 1) := by decide +kernel
theorem dl_887 : decode code 887 = .ok (.aload_n 1, 1) := by decide +kernel
theorem dl_888 : decode code 888 = .ok (.aload_n 0, 1) := by decide +kernel
theorem dl_889 : decode code 889 = .ok (.iload_n 3, 1) := by decide +kernel
theorem dl_890 : decode code 890 = .ok (.iconst 1, 1) := by decide +kernel
theorem dl_891 : decode code 891 = .ok (.iadd, 1) := by decide +kernel
theorem dl_892 : decode code 892 = .ok (.iaload, 1) := by decide +kernel
theorem dl_893 : decode code 893 = .ok (.invokevirtual 130, 3) := by decide +kernel
theorem dl_896 : decode code 896 = .ok (.aload_n 2, 1) := by decide +kernel
theorem dl_897 : decode code 897 = .ok (.aload_n 0, 1) := by decide +kernel
theorem dl_898 : decode code 898 = .ok (.iload_n 3, 1) := by decide +kernel
theorem dl_899 : decode code 899 = .ok (.iconst 1, 1) := by decide +kernel
theorem dl_900 : decode code 900 = .ok (.iadd, 1) := by decide +kernel
theorem dl_901 : decode code 901 = .ok (.iaload, 1) := by decide +kernel
theorem dl_902 : decode code 902 = .ok (.invokevirtual 133, 3) := by decide +kernel
theorem dl_905 : decode code 905 = .ok (.if_icmp .eq 42, 3) := by decide +kernel
theorem dl_908 : decode code 908 = .ok (.iconst 0, 1) := by decide +kernel
theorem dl_909 : decode code 909 = .ok (.ireturn, 1) := by decide +kernel
theorem dl_910 : decode code 910 = .ok (.aload_n 1, 1) := by decide +kernel
theorem dl_911 : decode code 911 = .ok (.aload_n 0, 1) := by decide +kernel
theorem dl_912 : decode code 912 = .ok (.iload_n 3, 1) := by decide +kernel
theorem dl_913 : decode code 913 = .ok (.iconst 1, 1) := by decide +kernel
theorem dl_914 : decode code 914 = .ok (.iadd, 1) := by decide +kernel
theorem dl_915 : decode code 915 = .ok (.iaload, 1) := by decide +kernel
theorem dl_916 : decode code 916 = .ok (.invokevirtual 134, 3) := by decide +kernel
theorem dl_919 : decode code 919 = .ok (.aload_n 2, 1) := by decide +kernel
theorem dl_920 : decode code 920 = .ok (.aload_n 0, 1) := by decide +kernel
theorem dl_921 : decode code 921 = .ok (.iload_n 3, 1) := by decide +kernel
theorem dl_922 : decode code 922 = .ok (.iconst 1, 1) := by decide +kernel
theorem dl_923 : decode code 923 = .ok (.iadd, 1) := by decide +kernel
theorem dl_924 : decode code 924 = .ok (.iaload, 1) := by decide +kernel
theorem dl_925 : decode code 925 = .ok (.invokevirtual 137, 3) := by decide +kernel
theorem dl_928 : decode code 928 = .ok (.if_icmp .eq 19, 3) := by decide +kernel
theorem dl_931 : decode code 931 = .ok (.iconst 0, 1) := by decide +kernel
theorem dl_932 : decode code 932 = .ok (.ireturn, 1) := by decide +kernel
theorem dl_933 : decode code 933 = .ok (.aload_n 1, 1) := by decide +kernel
theorem dl_934 : decode code 934 = .ok (.invokevirtual 138, 3) := by decide +kernel
theorem dl_937 : decode code 937 = .ok (.aload_n 2, 1) := by decide +kernel
theorem dl_938 : decode code 938 = .ok (.invokevirtual 142, 3) := by decide +kernel
theorem dl_941 : decode code 941 = .ok (.lcmp, 1) := by decide +kernel
theorem dl_942 : decode code 942 = .ok (.ifCond .eq 5, 3) := by decide +kernel
theorem dl_945 : decode code 945 = .ok (.iconst 0, 1) := by decide +kernel
theorem dl_946 : decode code 946 = .ok (.ireturn, 1) := by decide +kernel
theorem dl_947 : decode code 947 = .ok (.iinc 3 6, 3) := by decide +kernel
theorem dl_950 : decode code 950 = .ok (.goto (-932), 3) := by decide +kernel
theorem dl_953 : decode code 953 = .ok (.iconst 1, 1) := by decide +kernel
theorem dl_954 : decode code 954 = .ok (.ireturn, 1) := by decide +kernel
section LC
variable {g : cx_G} {p : Program} {l : Launch} {e : Env} {Rm : Room} {s : State} {m : MethodId} {args : Array Value} {below : List Frame} {meth : Method} {c : Code} {A : Nat → Prop} {cc : ByteArray} {n : Nat} {own : String} {cells slots : Nat} {Q : State → Prop} {H : Heap} {locs : List Loc} {la ls : Array Slot} {σ : ab_S} {S : zS} {pc : Nat} {st0 rest : List Value} {b L : Nat} {xs : Nat → Int32} {x3 : Int32}
theorem lc_call (X : cx_X g p Rm s m args c A cc n 11 own cells slots) {R : ab_R} {y np idx ci k0 : Nat} {q : cx_M} {r : vw_C} (as : List Value) (hy : cx_mt y = q) (hc : cx_cl[ci]? = some r) (hsh : ab_sh k0 = (0, ci)) (ok : cx_ok q np) (hw : Cond.methodLink own idx q.1 ∈ cx_WS) (hw2 : Cond.instanceMethod q.1 ∈ cx_WS) (hw3 : Cond.selects r.1 q.1 q.1 ∈ cx_WS) (hd : decode cc pc = .ok (.invokevirtual idx, 3)) (has : as.length = np) (hst : st0 = (as.map (cx_v g)).reverse ++ .ref (cx_ad g k0) :: rest) (hP : va_P g.2.2.2.1 cx_cl (cx_w g σ) H) (hS : va_S A s.heap H locs) (hsz : la.size = n) (hrest : (rest.map fun v => v.category).sum ≤ 8) (h : CA 11 y (.ref k0 :: as) σ R)
    (kk : ∀ (v : Option Value) (σ' : ab_S) (H1 : Heap) (locs1 : List Loc), R v σ' → va_P g.2.2.2.1 cx_cl (cx_w g σ') H1 → va_S A s.heap H1 locs1 → W p l e Rm s m args below meth c H1 locs1 cells slots Q (F0 m (pc + 3) la ((v.map (cx_v g)).toList ++ rest))) : W p l e Rm s m args below meth c H locs cells slots Q (F0 m pc la st0) := by
  have hM := cx_sd g l 11 y _ σ R h
  rw [hy] at hM
  have hAA := cx_AA X.2.2.2.2.2.2.1
  exact cx_go (R' := R) (rest := rest) (va_runV (C := r.1) (b := cx_ad g k0) (As := as.map (cx_v g)) (n := np) ⟨X.1, X.2.1, X.2.2.1, X.2.2.2.1, X.2.2.2.2.1⟩ hM ⟨cx_cB X ok hw, X.2.2.2.2.1 _ hw2, X.2.2.2.2.1 _ hw3⟩ ⟨cx_blind g _ σ, va_recv X.2.2.2.2.2.1.1 hP hc (cx_he σ hsh), fun U hU hW => ⟨rfl, by rw [hU]; exact hP, X.2.2.2.2.2.1.call hAA hS hU hW⟩⟩ rfl (by simp [has]) hsz hst (lv_room hrest) hd X.2.2.2.2.2.2.2.2) hS hAA kk
theorem lc_callI (X : cx_X g p Rm s m args c A cc n 11 own cells slots) {Rf : Int32 → ab_S → Prop} {y np idx ci k0 : Nat} {q : cx_M} {r : vw_C} (as : List Value) (hy : cx_mt y = q) (hc : cx_cl[ci]? = some r) (hsh : ab_sh k0 = (0, ci)) (ok : cx_ok q np) (hw : Cond.methodLink own idx q.1 ∈ cx_WS) (hw2 : Cond.instanceMethod q.1 ∈ cx_WS) (hw3 : Cond.selects r.1 q.1 q.1 ∈ cx_WS) (hd : decode cc pc = .ok (.invokevirtual idx, 3)) (has : as.length = np) (hst : st0 = (as.map (cx_v g)).reverse ++ .ref (cx_ad g k0) :: rest) (hP : va_P g.2.2.2.1 cx_cl (cx_w g σ) H) (hS : va_S A s.heap H locs) (hsz : la.size = n) (hrest : (rest.map fun v => v.category).sum ≤ 8) (h : CA 11 y (.ref k0 :: as) σ (ab_rI Rf))
    (kk : ∀ (v : Int32) (σ' : ab_S) (H1 : Heap) (locs1 : List Loc), Rf v σ' → va_P g.2.2.2.1 cx_cl (cx_w g σ') H1 → va_S A s.heap H1 locs1 → W p l e Rm s m args below meth c H1 locs1 cells slots Q (F0 m (pc + 3) la (.int v :: rest))) : W p l e Rm s m args below meth c H locs cells slots Q (F0 m pc la st0) :=
  lc_call X as hy hc hsh ok hw hw2 hw3 hd has hst hP hS hsz hrest h (fun v σ' H1 locs1 hR hP1 hS1 => by
    cases v with
    | none => exact hR.elim
    | some w => cases w <;> first | exact hR.elim | exact kk _ σ' H1 locs1 hR hP1 hS1)
theorem lc_callL (X : cx_X g p Rm s m args c A cc n 11 own cells slots) {Rf : Int64 → ab_S → Prop} {y np idx ci k0 : Nat} {q : cx_M} {r : vw_C} (as : List Value) (hy : cx_mt y = q) (hc : cx_cl[ci]? = some r) (hsh : ab_sh k0 = (0, ci)) (ok : cx_ok q np) (hw : Cond.methodLink own idx q.1 ∈ cx_WS) (hw2 : Cond.instanceMethod q.1 ∈ cx_WS) (hw3 : Cond.selects r.1 q.1 q.1 ∈ cx_WS) (hd : decode cc pc = .ok (.invokevirtual idx, 3)) (has : as.length = np) (hst : st0 = (as.map (cx_v g)).reverse ++ .ref (cx_ad g k0) :: rest) (hP : va_P g.2.2.2.1 cx_cl (cx_w g σ) H) (hS : va_S A s.heap H locs) (hsz : la.size = n) (hrest : (rest.map fun v => v.category).sum ≤ 8) (h : CA 11 y (.ref k0 :: as) σ (ab_rL Rf))
    (kk : ∀ (v : Int64) (σ' : ab_S) (H1 : Heap) (locs1 : List Loc), Rf v σ' → va_P g.2.2.2.1 cx_cl (cx_w g σ') H1 → va_S A s.heap H1 locs1 → W p l e Rm s m args below meth c H1 locs1 cells slots Q (F0 m (pc + 3) la (.long v :: rest))) : W p l e Rm s m args below meth c H locs cells slots Q (F0 m pc la st0) :=
  lc_call X as hy hc hsh ok hw hw2 hw3 hd has hst hP hS hsz hrest h (fun v σ' H1 locs1 hR hP1 hS1 => by
    cases v with
    | none => exact hR.elim
    | some w => cases w <;> first | exact hR.elim | exact kk _ σ' H1 locs1 hR hP1 hS1)
def lw_in (x3 : Int32) (L : Nat) : Prop := vp_in (x3 + 1) L ∧ vp_in (x3 + 2) L ∧ vp_in (x3 + 3) L ∧ vp_in (x3 + 4) L ∧ vp_in (x3 + 5) L
def lw_N (g : cx_G) (p : Program) (l : Launch) (e : Env) (s : State) (m : MethodId) (below : List Frame) (meth : Method) (c : Code) (b : Nat) (A : Nat → Prop) (ls : Array Slot) : Prop := ∀ (σ : ab_S) (S : zS) (H : Heap) (locs : List Loc), zIF σ S → zIM σ S → zSV S → va_P g.2.2.2.1 cx_cl (cx_w g σ) H → va_S A s.heap H locs → W p l e room_1 s m #[Value.ref b] below meth c H locs 64 1649 (lw_Z below #[Value.ref b] s) (F0 m 947 ls [])
theorem lc_same (x : Int64) : lg_cmp x x = 0 := by
  unfold lg_cmp
  simp
set_option maxRecDepth 100000 in
theorem lc_0 (X : cx_X g p room_1 s m #[Value.ref b] c A code 4 11 "FoxGeeseLaw" 64 1649) (hX : va_X b L xs s s.heap) (hbl : b < s.heap.size) (hbA : ¬ A b) (hl : lv_has ls 4 [(0, .ref b), (1, .ref (cx_ad g 0)), (2, .ref (cx_ad g 56)), (3, .int x3)]) (hin : lw_in x3 L) (nx : lw_N g p l e s m below meth c b A ls) (hF : zIF σ S) (hM : zIM σ S) (hV : zSV S) (hP : va_P g.2.2.2.1 cx_cl (cx_w g σ) H) (hS : va_S A s.heap H locs) : W p l e room_1 s m #[Value.ref b] below meth c H locs 64 1649 (lw_Z below #[Value.ref b] s) (F0 m 172 ls []) := by
  refine lv_aload_n X.1 X.2.1 dl_172 rfl (lv_at hl 1 rfl) ?_
  refine lv_aload_n X.1 X.2.1 dl_173 rfl (lv_at hl 0 rfl) ?_
  refine lv_iload_n X.1 X.2.1 dl_174 rfl (lv_at hl 3 rfl) ?_
  refine lv_iconst (v := 1) X.1 X.2.1 dl_175 (by decide) ?_
  refine lv_iadd X.1 X.2.1 dl_176 ?_
  refine va_sld X.1 X.2.1 hX hbl hbA hS hin.1 dl_177 ?_
  refine lv_aload_n X.1 X.2.1 dl_178 rfl (lv_at hl 0 rfl) ?_
  refine lv_iload_n X.1 X.2.1 dl_179 rfl (lv_at hl 3 rfl) ?_
  refine lv_iconst (v := 2) X.1 X.2.1 dl_180 (by decide) ?_
  refine lv_iadd X.1 X.2.1 dl_181 ?_
  refine va_sld X.1 X.2.1 hX hbl hbA hS hin.2.1 dl_182 ?_
  refine lc_callI X [.int (xs (x3 + 1).toNatClampNeg), .int (xs (x3 + 2).toNatClampNeg)] (y := 68) (k0 := 0) (ci := 4) (r := (nm_R4, nm_T4, 9)) (q := mq_F_field) rfl rfl rfl ok_F_field (cx_mem 243 (by decide +kernel) (by decide +kernel)) (cx_mem 244 (by decide +kernel) (by decide +kernel)) (cx_mem 245 (by decide +kernel) (by decide +kernel)) dl_183 rfl rfl hP hS hl.1 (Nat.le_of_ble_eq_true rfl) (p_F_field (d := 7) (Rf := fun r τ => r = (zO_field S (xs (x3 + 1).toNatClampNeg) (xs (x3 + 2).toNatClampNeg)).1 ∧ zIF τ (zO_field S (xs (x3 + 1).toNatClampNeg) (xs (x3 + 2).toNatClampNeg)).2 ∧ zKF σ τ) hF (fun τ h1 h2 => ⟨rfl, h1, h2⟩)) (fun r1 σ1 H locs hR1 hP hS => ?_)
  obtain ⟨e1, hF1, hK1⟩ := hR1
  have hM1 := hM.fr hK1
  refine lv_aload_n X.1 X.2.1 dl_186 rfl (lv_at hl 2 rfl) ?_
  refine lv_aload_n X.1 X.2.1 dl_187 rfl (lv_at hl 0 rfl) ?_
  refine lv_iload_n X.1 X.2.1 dl_188 rfl (lv_at hl 3 rfl) ?_
  refine lv_iconst (v := 1) X.1 X.2.1 dl_189 (by decide) ?_
  refine lv_iadd X.1 X.2.1 dl_190 ?_
  refine va_sld X.1 X.2.1 hX hbl hbA hS hin.1 dl_191 ?_
  refine lv_aload_n X.1 X.2.1 dl_192 rfl (lv_at hl 0 rfl) ?_
  refine lv_iload_n X.1 X.2.1 dl_193 rfl (lv_at hl 3 rfl) ?_
  refine lv_iconst (v := 2) X.1 X.2.1 dl_194 (by decide) ?_
  refine lv_iadd X.1 X.2.1 dl_195 ?_
  refine va_sld X.1 X.2.1 hX hbl hbA hS hin.2.1 dl_196 ?_
  refine lc_callI X [.int (xs (x3 + 1).toNatClampNeg), .int (xs (x3 + 2).toNatClampNeg)] (y := 147) (k0 := 56) (ci := 5) (r := (nm_R5, nm_T5, 15)) (q := mq_M_field) rfl rfl rfl ok_M_field (cx_mem 803 (by decide +kernel) (by decide +kernel)) (cx_mem 804 (by decide +kernel) (by decide +kernel)) (cx_mem 805 (by decide +kernel) (by decide +kernel)) dl_197 rfl rfl hP hS hl.1 (Nat.le_of_ble_eq_true rfl) (p_M_field (d := 7) (Rf := fun r τ => r = (zO_field S (xs (x3 + 1).toNatClampNeg) (xs (x3 + 2).toNatClampNeg)).1 ∧ zIM τ (zO_field S (xs (x3 + 1).toNatClampNeg) (xs (x3 + 2).toNatClampNeg)).2 ∧ zKM σ1 τ) hM1 hV (fun τ h1 h2 => ⟨rfl, h1, h2⟩)) (fun r2 σ2 H locs hR2 hP hS => ?_)
  obtain ⟨e2, hM2, hK2⟩ := hR2
  refine lv_icmp_eq (tgt := 947) X.1 X.2.1 dl_200 (by decide) (fun _ => ?_) (fun c9 => absurd (e1.trans e2.symm) c9)
  exact nx σ2 _ H locs (hF1.fr hK2) hM2 (zO_field_V hV) hP hS
set_option maxRecDepth 100000 in
theorem lc_1 (X : cx_X g p room_1 s m #[Value.ref b] c A code 4 11 "FoxGeeseLaw" 64 1649) (hX : va_X b L xs s s.heap) (hbl : b < s.heap.size) (hbA : ¬ A b) (hl : lv_has ls 4 [(0, .ref b), (1, .ref (cx_ad g 0)), (2, .ref (cx_ad g 56)), (3, .int x3)]) (hin : lw_in x3 L) (nx : lw_N g p l e s m below meth c b A ls) (hF : zIF σ S) (hM : zIM σ S) (hV : zSV S) (hP : va_P g.2.2.2.1 cx_cl (cx_w g σ) H) (hS : va_S A s.heap H locs) : W p l e room_1 s m #[Value.ref b] below meth c H locs 64 1649 (lw_Z below #[Value.ref b] s) (F0 m 205 ls []) := by
  refine lv_aload_n X.1 X.2.1 dl_205 rfl (lv_at hl 1 rfl) ?_
  refine lv_aload_n X.1 X.2.1 dl_206 rfl (lv_at hl 0 rfl) ?_
  refine lv_iload_n X.1 X.2.1 dl_207 rfl (lv_at hl 3 rfl) ?_
  refine lv_iconst (v := 1) X.1 X.2.1 dl_208 (by decide) ?_
  refine lv_iadd X.1 X.2.1 dl_209 ?_
  refine va_sld X.1 X.2.1 hX hbl hbA hS hin.1 dl_210 ?_
  refine lc_callI X [.int (xs (x3 + 1).toNatClampNeg)] (y := 69) (k0 := 0) (ci := 4) (r := (nm_R4, nm_T4, 9)) (q := mq_F_thicket) rfl rfl rfl ok_F_thicket (cx_mem 262 (by decide +kernel) (by decide +kernel)) (cx_mem 263 (by decide +kernel) (by decide +kernel)) (cx_mem 264 (by decide +kernel) (by decide +kernel)) dl_211 rfl rfl hP hS hl.1 (Nat.le_of_ble_eq_true rfl) (p_F_thicket (d := 6) (Rf := fun r τ => r = (zO_thicket S (xs (x3 + 1).toNatClampNeg)).1 ∧ zIF τ (zO_thicket S (xs (x3 + 1).toNatClampNeg)).2 ∧ zKF σ τ) hF hV (fun τ h1 h2 => ⟨rfl, h1, h2⟩)) (fun r1 σ1 H locs hR1 hP hS => ?_)
  obtain ⟨e1, hF1, hK1⟩ := hR1
  have hM1 := hM.fr hK1
  refine lv_aload_n X.1 X.2.1 dl_214 rfl (lv_at hl 2 rfl) ?_
  refine lv_aload_n X.1 X.2.1 dl_215 rfl (lv_at hl 0 rfl) ?_
  refine lv_iload_n X.1 X.2.1 dl_216 rfl (lv_at hl 3 rfl) ?_
  refine lv_iconst (v := 1) X.1 X.2.1 dl_217 (by decide) ?_
  refine lv_iadd X.1 X.2.1 dl_218 ?_
  refine va_sld X.1 X.2.1 hX hbl hbA hS hin.1 dl_219 ?_
  refine lc_callI X [.int (xs (x3 + 1).toNatClampNeg)] (y := 148) (k0 := 56) (ci := 5) (r := (nm_R5, nm_T5, 15)) (q := mq_M_thicket) rfl rfl rfl ok_M_thicket (cx_mem 824 (by decide +kernel) (by decide +kernel)) (cx_mem 825 (by decide +kernel) (by decide +kernel)) (cx_mem 826 (by decide +kernel) (by decide +kernel)) dl_220 rfl rfl hP hS hl.1 (Nat.le_of_ble_eq_true rfl) (p_M_thicket (d := 6) (Rf := fun r τ => r = (zO_thicket S (xs (x3 + 1).toNatClampNeg)).1 ∧ zIM τ (zO_thicket S (xs (x3 + 1).toNatClampNeg)).2 ∧ zKM σ1 τ) hM1 hV (fun τ h1 h2 => ⟨rfl, h1, h2⟩)) (fun r2 σ2 H locs hR2 hP hS => ?_)
  obtain ⟨e2, hM2, hK2⟩ := hR2
  refine lv_icmp_eq (tgt := 947) X.1 X.2.1 dl_223 (by decide) (fun _ => ?_) (fun c9 => absurd (e1.trans e2.symm) c9)
  exact nx σ2 _ H locs (hF1.fr hK2) hM2 (zO_thicket_V hV) hP hS
set_option maxRecDepth 100000 in
theorem lc_2 (X : cx_X g p room_1 s m #[Value.ref b] c A code 4 11 "FoxGeeseLaw" 64 1649) (hX : va_X b L xs s s.heap) (hbl : b < s.heap.size) (hbA : ¬ A b) (hl : lv_has ls 4 [(0, .ref b), (1, .ref (cx_ad g 0)), (2, .ref (cx_ad g 56)), (3, .int x3)]) (hin : lw_in x3 L) (nx : lw_N g p l e s m below meth c b A ls) (hF : zIF σ S) (hM : zIM σ S) (hV : zSV S) (hP : va_P g.2.2.2.1 cx_cl (cx_w g σ) H) (hS : va_S A s.heap H locs) : W p l e room_1 s m #[Value.ref b] below meth c H locs 64 1649 (lw_Z below #[Value.ref b] s) (F0 m 228 ls []) := by
  refine lv_aload_n X.1 X.2.1 dl_228 rfl (lv_at hl 1 rfl) ?_
  refine lv_aload_n X.1 X.2.1 dl_229 rfl (lv_at hl 0 rfl) ?_
  refine lv_iload_n X.1 X.2.1 dl_230 rfl (lv_at hl 3 rfl) ?_
  refine lv_iconst (v := 1) X.1 X.2.1 dl_231 (by decide) ?_
  refine lv_iadd X.1 X.2.1 dl_232 ?_
  refine va_sld X.1 X.2.1 hX hbl hbA hS hin.1 dl_233 ?_
  refine lv_aload_n X.1 X.2.1 dl_234 rfl (lv_at hl 0 rfl) ?_
  refine lv_iload_n X.1 X.2.1 dl_235 rfl (lv_at hl 3 rfl) ?_
  refine lv_iconst (v := 2) X.1 X.2.1 dl_236 (by decide) ?_
  refine lv_iadd X.1 X.2.1 dl_237 ?_
  refine va_sld X.1 X.2.1 hX hbl hbA hS hin.2.1 dl_238 ?_
  refine lc_callI X [.int (xs (x3 + 1).toNatClampNeg), .int (xs (x3 + 2).toNatClampNeg)] (y := 70) (k0 := 0) (ci := 4) (r := (nm_R4, nm_T4, 9)) (q := mq_F_fox) rfl rfl rfl ok_F_fox (cx_mem 292 (by decide +kernel) (by decide +kernel)) (cx_mem 293 (by decide +kernel) (by decide +kernel)) (cx_mem 294 (by decide +kernel) (by decide +kernel)) dl_239 rfl rfl hP hS hl.1 (Nat.le_of_ble_eq_true rfl) (p_F_fox (d := 6) (Rf := fun r τ => r = (zO_fox S (xs (x3 + 1).toNatClampNeg) (xs (x3 + 2).toNatClampNeg)).1 ∧ zIF τ (zO_fox S (xs (x3 + 1).toNatClampNeg) (xs (x3 + 2).toNatClampNeg)).2 ∧ zKF σ τ) hF hV (fun τ h1 h2 => ⟨rfl, h1, h2⟩)) (fun r1 σ1 H locs hR1 hP hS => ?_)
  obtain ⟨e1, hF1, hK1⟩ := hR1
  have hM1 := hM.fr hK1
  refine lv_aload_n X.1 X.2.1 dl_242 rfl (lv_at hl 2 rfl) ?_
  refine lv_aload_n X.1 X.2.1 dl_243 rfl (lv_at hl 0 rfl) ?_
  refine lv_iload_n X.1 X.2.1 dl_244 rfl (lv_at hl 3 rfl) ?_
  refine lv_iconst (v := 1) X.1 X.2.1 dl_245 (by decide) ?_
  refine lv_iadd X.1 X.2.1 dl_246 ?_
  refine va_sld X.1 X.2.1 hX hbl hbA hS hin.1 dl_247 ?_
  refine lv_aload_n X.1 X.2.1 dl_248 rfl (lv_at hl 0 rfl) ?_
  refine lv_iload_n X.1 X.2.1 dl_249 rfl (lv_at hl 3 rfl) ?_
  refine lv_iconst (v := 2) X.1 X.2.1 dl_250 (by decide) ?_
  refine lv_iadd X.1 X.2.1 dl_251 ?_
  refine va_sld X.1 X.2.1 hX hbl hbA hS hin.2.1 dl_252 ?_
  refine lc_callI X [.int (xs (x3 + 1).toNatClampNeg), .int (xs (x3 + 2).toNatClampNeg)] (y := 149) (k0 := 56) (ci := 5) (r := (nm_R5, nm_T5, 15)) (q := mq_M_fox) rfl rfl rfl ok_M_fox (cx_mem 854 (by decide +kernel) (by decide +kernel)) (cx_mem 855 (by decide +kernel) (by decide +kernel)) (cx_mem 856 (by decide +kernel) (by decide +kernel)) dl_253 rfl rfl hP hS hl.1 (Nat.le_of_ble_eq_true rfl) (p_M_fox (d := 6) (Rf := fun r τ => r = (zO_fox S (xs (x3 + 1).toNatClampNeg) (xs (x3 + 2).toNatClampNeg)).1 ∧ zIM τ (zO_fox S (xs (x3 + 1).toNatClampNeg) (xs (x3 + 2).toNatClampNeg)).2 ∧ zKM σ1 τ) hM1 hV (fun τ h1 h2 => ⟨rfl, h1, h2⟩)) (fun r2 σ2 H locs hR2 hP hS => ?_)
  obtain ⟨e2, hM2, hK2⟩ := hR2
  refine lv_icmp_eq (tgt := 947) X.1 X.2.1 dl_256 (by decide) (fun _ => ?_) (fun c9 => absurd (e1.trans e2.symm) c9)
  exact nx σ2 _ H locs (hF1.fr hK2) hM2 (zO_fox_V hV) hP hS
set_option maxRecDepth 100000 in
theorem lc_3 (X : cx_X g p room_1 s m #[Value.ref b] c A code 4 11 "FoxGeeseLaw" 64 1649) (hX : va_X b L xs s s.heap) (hbl : b < s.heap.size) (hbA : ¬ A b) (hl : lv_has ls 4 [(0, .ref b), (1, .ref (cx_ad g 0)), (2, .ref (cx_ad g 56)), (3, .int x3)]) (hin : lw_in x3 L) (nx : lw_N g p l e s m below meth c b A ls) (hF : zIF σ S) (hM : zIM σ S) (hV : zSV S) (hP : va_P g.2.2.2.1 cx_cl (cx_w g σ) H) (hS : va_S A s.heap H locs) : W p l e room_1 s m #[Value.ref b] below meth c H locs 64 1649 (lw_Z below #[Value.ref b] s) (F0 m 261 ls []) := by
  refine lv_aload_n X.1 X.2.1 dl_261 rfl (lv_at hl 1 rfl) ?_
  refine lv_aload_n X.1 X.2.1 dl_262 rfl (lv_at hl 0 rfl) ?_
  refine lv_iload_n X.1 X.2.1 dl_263 rfl (lv_at hl 3 rfl) ?_
  refine lv_iconst (v := 1) X.1 X.2.1 dl_264 (by decide) ?_
  refine lv_iadd X.1 X.2.1 dl_265 ?_
  refine va_sld X.1 X.2.1 hX hbl hbA hS hin.1 dl_266 ?_
  refine lv_aload_n X.1 X.2.1 dl_267 rfl (lv_at hl 0 rfl) ?_
  refine lv_iload_n X.1 X.2.1 dl_268 rfl (lv_at hl 3 rfl) ?_
  refine lv_iconst (v := 2) X.1 X.2.1 dl_269 (by decide) ?_
  refine lv_iadd X.1 X.2.1 dl_270 ?_
  refine va_sld X.1 X.2.1 hX hbl hbA hS hin.2.1 dl_271 ?_
  refine lc_callI X [.int (xs (x3 + 1).toNatClampNeg), .int (xs (x3 + 2).toNatClampNeg)] (y := 71) (k0 := 0) (ci := 4) (r := (nm_R4, nm_T4, 9)) (q := mq_F_goose) rfl rfl rfl ok_F_goose (cx_mem 304 (by decide +kernel) (by decide +kernel)) (cx_mem 305 (by decide +kernel) (by decide +kernel)) (cx_mem 306 (by decide +kernel) (by decide +kernel)) dl_272 rfl rfl hP hS hl.1 (Nat.le_of_ble_eq_true rfl) (p_F_goose (d := 6) (Rf := fun r τ => r = (zO_goose S (xs (x3 + 1).toNatClampNeg) (xs (x3 + 2).toNatClampNeg)).1 ∧ zIF τ (zO_goose S (xs (x3 + 1).toNatClampNeg) (xs (x3 + 2).toNatClampNeg)).2 ∧ zKF σ τ) hF hV (fun τ h1 h2 => ⟨rfl, h1, h2⟩)) (fun r1 σ1 H locs hR1 hP hS => ?_)
  obtain ⟨e1, hF1, hK1⟩ := hR1
  have hM1 := hM.fr hK1
  refine lv_aload_n X.1 X.2.1 dl_275 rfl (lv_at hl 2 rfl) ?_
  refine lv_aload_n X.1 X.2.1 dl_276 rfl (lv_at hl 0 rfl) ?_
  refine lv_iload_n X.1 X.2.1 dl_277 rfl (lv_at hl 3 rfl) ?_
  refine lv_iconst (v := 1) X.1 X.2.1 dl_278 (by decide) ?_
  refine lv_iadd X.1 X.2.1 dl_279 ?_
  refine va_sld X.1 X.2.1 hX hbl hbA hS hin.1 dl_280 ?_
  refine lv_aload_n X.1 X.2.1 dl_281 rfl (lv_at hl 0 rfl) ?_
  refine lv_iload_n X.1 X.2.1 dl_282 rfl (lv_at hl 3 rfl) ?_
  refine lv_iconst (v := 2) X.1 X.2.1 dl_283 (by decide) ?_
  refine lv_iadd X.1 X.2.1 dl_284 ?_
  refine va_sld X.1 X.2.1 hX hbl hbA hS hin.2.1 dl_285 ?_
  refine lc_callI X [.int (xs (x3 + 1).toNatClampNeg), .int (xs (x3 + 2).toNatClampNeg)] (y := 151) (k0 := 56) (ci := 5) (r := (nm_R5, nm_T5, 15)) (q := mq_M_goose) rfl rfl rfl ok_M_goose (cx_mem 858 (by decide +kernel) (by decide +kernel)) (cx_mem 859 (by decide +kernel) (by decide +kernel)) (cx_mem 860 (by decide +kernel) (by decide +kernel)) dl_286 rfl rfl hP hS hl.1 (Nat.le_of_ble_eq_true rfl) (p_M_goose (d := 6) (Rf := fun r τ => r = (zO_goose S (xs (x3 + 1).toNatClampNeg) (xs (x3 + 2).toNatClampNeg)).1 ∧ zIM τ (zO_goose S (xs (x3 + 1).toNatClampNeg) (xs (x3 + 2).toNatClampNeg)).2 ∧ zKM σ1 τ) hM1 hV (fun τ h1 h2 => ⟨rfl, h1, h2⟩)) (fun r2 σ2 H locs hR2 hP hS => ?_)
  obtain ⟨e2, hM2, hK2⟩ := hR2
  refine lv_icmp_eq (tgt := 947) X.1 X.2.1 dl_289 (by decide) (fun _ => ?_) (fun c9 => absurd (e1.trans e2.symm) c9)
  exact nx σ2 _ H locs (hF1.fr hK2) hM2 (zO_goose_V hV) hP hS
set_option maxRecDepth 100000 in
theorem lc_4 (X : cx_X g p room_1 s m #[Value.ref b] c A code 4 11 "FoxGeeseLaw" 64 1649) (hX : va_X b L xs s s.heap) (hbl : b < s.heap.size) (hbA : ¬ A b) (hl : lv_has ls 4 [(0, .ref b), (1, .ref (cx_ad g 0)), (2, .ref (cx_ad g 56)), (3, .int x3)]) (hin : lw_in x3 L) (nx : lw_N g p l e s m below meth c b A ls) (hF : zIF σ S) (hM : zIM σ S) (hV : zSV S) (hP : va_P g.2.2.2.1 cx_cl (cx_w g σ) H) (hS : va_S A s.heap H locs) : W p l e room_1 s m #[Value.ref b] below meth c H locs 64 1649 (lw_Z below #[Value.ref b] s) (F0 m 294 ls []) := by
  refine lv_aload_n X.1 X.2.1 dl_294 rfl (lv_at hl 1 rfl) ?_
  refine lv_aload_n X.1 X.2.1 dl_295 rfl (lv_at hl 0 rfl) ?_
  refine lv_iload_n X.1 X.2.1 dl_296 rfl (lv_at hl 3 rfl) ?_
  refine lv_iconst (v := 1) X.1 X.2.1 dl_297 (by decide) ?_
  refine lv_iadd X.1 X.2.1 dl_298 ?_
  refine va_sld X.1 X.2.1 hX hbl hbA hS hin.1 dl_299 ?_
  refine lc_callI X [.int (xs (x3 + 1).toNatClampNeg)] (y := 72) (k0 := 0) (ci := 4) (r := (nm_R4, nm_T4, 9)) (q := mq_F_type) rfl rfl rfl ok_F_type (cx_mem 312 (by decide +kernel) (by decide +kernel)) (cx_mem 313 (by decide +kernel) (by decide +kernel)) (cx_mem 314 (by decide +kernel) (by decide +kernel)) dl_300 rfl rfl hP hS hl.1 (Nat.le_of_ble_eq_true rfl) (p_F_type (d := 8) (Rf := fun r τ => r = (zO_type S (xs (x3 + 1).toNatClampNeg)).1 ∧ zIF τ (zO_type S (xs (x3 + 1).toNatClampNeg)).2 ∧ zKF σ τ) hF hV (fun τ h1 h2 => ⟨rfl, h1, h2⟩)) (fun r1 σ1 H locs hR1 hP hS => ?_)
  obtain ⟨e1, hF1, hK1⟩ := hR1
  have hM1 := hM.fr hK1
  refine lv_aload_n X.1 X.2.1 dl_303 rfl (lv_at hl 2 rfl) ?_
  refine lv_aload_n X.1 X.2.1 dl_304 rfl (lv_at hl 0 rfl) ?_
  refine lv_iload_n X.1 X.2.1 dl_305 rfl (lv_at hl 3 rfl) ?_
  refine lv_iconst (v := 1) X.1 X.2.1 dl_306 (by decide) ?_
  refine lv_iadd X.1 X.2.1 dl_307 ?_
  refine va_sld X.1 X.2.1 hX hbl hbA hS hin.1 dl_308 ?_
  refine lc_callI X [.int (xs (x3 + 1).toNatClampNeg)] (y := 152) (k0 := 56) (ci := 5) (r := (nm_R5, nm_T5, 15)) (q := mq_M_type) rfl rfl rfl ok_M_type (cx_mem 870 (by decide +kernel) (by decide +kernel)) (cx_mem 871 (by decide +kernel) (by decide +kernel)) (cx_mem 872 (by decide +kernel) (by decide +kernel)) dl_309 rfl rfl hP hS hl.1 (Nat.le_of_ble_eq_true rfl) (p_M_type (d := 9) (Rf := fun r τ => r = (zO_type S (xs (x3 + 1).toNatClampNeg)).1 ∧ zIM τ (zO_type S (xs (x3 + 1).toNatClampNeg)).2 ∧ zKM σ1 τ) hM1 hV (fun τ h1 h2 => ⟨rfl, h1, h2⟩)) (fun r2 σ2 H locs hR2 hP hS => ?_)
  obtain ⟨e2, hM2, hK2⟩ := hR2
  refine lv_icmp_eq (tgt := 947) X.1 X.2.1 dl_312 (by decide) (fun _ => ?_) (fun c9 => absurd (e1.trans e2.symm) c9)
  exact nx σ2 _ H locs (hF1.fr hK2) hM2 (zO_type_V hV) hP hS
set_option maxRecDepth 100000 in
theorem lc_5 (X : cx_X g p room_1 s m #[Value.ref b] c A code 4 11 "FoxGeeseLaw" 64 1649) (hX : va_X b L xs s s.heap) (hbl : b < s.heap.size) (hbA : ¬ A b) (hl : lv_has ls 4 [(0, .ref b), (1, .ref (cx_ad g 0)), (2, .ref (cx_ad g 56)), (3, .int x3)]) (hin : lw_in x3 L) (nx : lw_N g p l e s m below meth c b A ls) (hF : zIF σ S) (hM : zIM σ S) (hV : zSV S) (hP : va_P g.2.2.2.1 cx_cl (cx_w g σ) H) (hS : va_S A s.heap H locs) : W p l e room_1 s m #[Value.ref b] below meth c H locs 64 1649 (lw_Z below #[Value.ref b] s) (F0 m 317 ls []) := by
  refine lv_aload_n X.1 X.2.1 dl_317 rfl (lv_at hl 1 rfl) ?_
  refine lc_callI X [] (y := 73) (k0 := 0) (ci := 4) (r := (nm_R4, nm_T4, 9)) (q := mq_F_clear) rfl rfl rfl ok_F_clear (cx_mem 320 (by decide +kernel) (by decide +kernel)) (cx_mem 321 (by decide +kernel) (by decide +kernel)) (cx_mem 322 (by decide +kernel) (by decide +kernel)) dl_318 rfl rfl hP hS hl.1 (Nat.le_of_ble_eq_true rfl) (p_F_clear (d := 10) (Rf := fun r τ => r = (zO_clear S).1 ∧ zIF τ (zO_clear S).2 ∧ zKF σ τ) hF (fun τ h1 h2 => ⟨rfl, h1, h2⟩)) (fun r1 σ1 H locs hR1 hP hS => ?_)
  obtain ⟨e1, hF1, hK1⟩ := hR1
  have hM1 := hM.fr hK1
  refine lv_aload_n X.1 X.2.1 dl_321 rfl (lv_at hl 2 rfl) ?_
  refine lc_callI X [] (y := 153) (k0 := 56) (ci := 5) (r := (nm_R5, nm_T5, 15)) (q := mq_M_clear) rfl rfl rfl ok_M_clear (cx_mem 875 (by decide +kernel) (by decide +kernel)) (cx_mem 876 (by decide +kernel) (by decide +kernel)) (cx_mem 877 (by decide +kernel) (by decide +kernel)) dl_322 rfl rfl hP hS hl.1 (Nat.le_of_ble_eq_true rfl) (p_M_clear (d := 10) (Rf := fun r τ => r = (zO_clear S).1 ∧ zIM τ (zO_clear S).2 ∧ zKM σ1 τ) hM1 (fun τ h1 h2 => ⟨rfl, h1, h2⟩)) (fun r2 σ2 H locs hR2 hP hS => ?_)
  obtain ⟨e2, hM2, hK2⟩ := hR2
  refine lv_icmp_eq (tgt := 947) X.1 X.2.1 dl_325 (by decide) (fun _ => ?_) (fun c9 => absurd (e1.trans e2.symm) c9)
  exact nx σ2 _ H locs (hF1.fr hK2) hM2 (zO_clear_V hV) hP hS
set_option maxRecDepth 100000 in
theorem lc_6 (X : cx_X g p room_1 s m #[Value.ref b] c A code 4 11 "FoxGeeseLaw" 64 1649) (hX : va_X b L xs s s.heap) (hbl : b < s.heap.size) (hbA : ¬ A b) (hl : lv_has ls 4 [(0, .ref b), (1, .ref (cx_ad g 0)), (2, .ref (cx_ad g 56)), (3, .int x3)]) (hin : lw_in x3 L) (nx : lw_N g p l e s m below meth c b A ls) (hF : zIF σ S) (hM : zIM σ S) (hV : zSV S) (hP : va_P g.2.2.2.1 cx_cl (cx_w g σ) H) (hS : va_S A s.heap H locs) : W p l e room_1 s m #[Value.ref b] below meth c H locs 64 1649 (lw_Z below #[Value.ref b] s) (F0 m 330 ls []) := by
  refine lv_aload_n X.1 X.2.1 dl_330 rfl (lv_at hl 1 rfl) ?_
  refine lc_callI X [] (y := 74) (k0 := 0) (ci := 4) (r := (nm_R4, nm_T4, 9)) (q := mq_F_read) rfl rfl rfl ok_F_read (cx_mem 324 (by decide +kernel) (by decide +kernel)) (cx_mem 325 (by decide +kernel) (by decide +kernel)) (cx_mem 326 (by decide +kernel) (by decide +kernel)) dl_331 rfl rfl hP hS hl.1 (Nat.le_of_ble_eq_true rfl) (p_F_read (d := 2) (Rf := fun r τ => r = (zO_read S).1 ∧ zIF τ (zO_read S).2 ∧ zKF σ τ) hF hV (fun τ h1 h2 => ⟨rfl, h1, h2⟩)) (fun r1 σ1 H locs hR1 hP hS => ?_)
  obtain ⟨e1, hF1, hK1⟩ := hR1
  have hM1 := hM.fr hK1
  refine lv_aload_n X.1 X.2.1 dl_334 rfl (lv_at hl 2 rfl) ?_
  refine lc_callI X [] (y := 171) (k0 := 56) (ci := 5) (r := (nm_R5, nm_T5, 15)) (q := mq_M_read) rfl rfl rfl ok_M_read (cx_mem 879 (by decide +kernel) (by decide +kernel)) (cx_mem 880 (by decide +kernel) (by decide +kernel)) (cx_mem 881 (by decide +kernel) (by decide +kernel)) dl_335 rfl rfl hP hS hl.1 (Nat.le_of_ble_eq_true rfl) (p_M_read (d := 0) (Rf := fun r τ => r = (zO_read S).1 ∧ zIM τ (zO_read S).2 ∧ zKM σ1 τ) hM1 hV (fun τ h1 h2 => ⟨rfl, h1, h2⟩)) (fun r2 σ2 H locs hR2 hP hS => ?_)
  obtain ⟨e2, hM2, hK2⟩ := hR2
  refine lv_icmp_eq (tgt := 947) X.1 X.2.1 dl_338 (by decide) (fun _ => ?_) (fun c9 => absurd (e1.trans e2.symm) c9)
  exact nx σ2 _ H locs (hF1.fr hK2) hM2 (zO_read_V hV) hP hS
set_option maxRecDepth 100000 in
theorem lc_7 (X : cx_X g p room_1 s m #[Value.ref b] c A code 4 11 "FoxGeeseLaw" 64 1649) (hX : va_X b L xs s s.heap) (hbl : b < s.heap.size) (hbA : ¬ A b) (hl : lv_has ls 4 [(0, .ref b), (1, .ref (cx_ad g 0)), (2, .ref (cx_ad g 56)), (3, .int x3)]) (hin : lw_in x3 L) (nx : lw_N g p l e s m below meth c b A ls) (hF : zIF σ S) (hM : zIM σ S) (hV : zSV S) (hP : va_P g.2.2.2.1 cx_cl (cx_w g σ) H) (hS : va_S A s.heap H locs) : W p l e room_1 s m #[Value.ref b] below meth c H locs 64 1649 (lw_Z below #[Value.ref b] s) (F0 m 343 ls []) := by
  refine lv_aload_n X.1 X.2.1 dl_343 rfl (lv_at hl 1 rfl) ?_
  refine lv_aload_n X.1 X.2.1 dl_344 rfl (lv_at hl 0 rfl) ?_
  refine lv_iload_n X.1 X.2.1 dl_345 rfl (lv_at hl 3 rfl) ?_
  refine lv_iconst (v := 1) X.1 X.2.1 dl_346 (by decide) ?_
  refine lv_iadd X.1 X.2.1 dl_347 ?_
  refine va_sld X.1 X.2.1 hX hbl hbA hS hin.1 dl_348 ?_
  refine lc_callI X [.int (xs (x3 + 1).toNatClampNeg)] (y := 75) (k0 := 0) (ci := 4) (r := (nm_R4, nm_T4, 9)) (q := mq_F_goes) rfl rfl rfl ok_F_goes (cx_mem 534 (by decide +kernel) (by decide +kernel)) (cx_mem 535 (by decide +kernel) (by decide +kernel)) (cx_mem 536 (by decide +kernel) (by decide +kernel)) dl_349 rfl rfl hP hS hl.1 (Nat.le_of_ble_eq_true rfl) (p_F_goes (d := 6) (Rf := fun r τ => r = (zO_goes S (xs (x3 + 1).toNatClampNeg)).1 ∧ zIF τ (zO_goes S (xs (x3 + 1).toNatClampNeg)).2 ∧ zKF σ τ) hF hV (fun τ h1 h2 => ⟨rfl, h1, h2⟩)) (fun r1 σ1 H locs hR1 hP hS => ?_)
  obtain ⟨e1, hF1, hK1⟩ := hR1
  have hM1 := hM.fr hK1
  refine lv_aload_n X.1 X.2.1 dl_352 rfl (lv_at hl 2 rfl) ?_
  refine lv_aload_n X.1 X.2.1 dl_353 rfl (lv_at hl 0 rfl) ?_
  refine lv_iload_n X.1 X.2.1 dl_354 rfl (lv_at hl 3 rfl) ?_
  refine lv_iconst (v := 1) X.1 X.2.1 dl_355 (by decide) ?_
  refine lv_iadd X.1 X.2.1 dl_356 ?_
  refine va_sld X.1 X.2.1 hX hbl hbA hS hin.1 dl_357 ?_
  refine lc_callI X [.int (xs (x3 + 1).toNatClampNeg)] (y := 173) (k0 := 56) (ci := 5) (r := (nm_R5, nm_T5, 15)) (q := mq_M_goes) rfl rfl rfl ok_M_goes (cx_mem 1031 (by decide +kernel) (by decide +kernel)) (cx_mem 1032 (by decide +kernel) (by decide +kernel)) (cx_mem 1033 (by decide +kernel) (by decide +kernel)) dl_358 rfl rfl hP hS hl.1 (Nat.le_of_ble_eq_true rfl) (p_M_goes (d := 2) (Rf := fun r τ => r = (zO_goes S (xs (x3 + 1).toNatClampNeg)).1 ∧ zIM τ (zO_goes S (xs (x3 + 1).toNatClampNeg)).2 ∧ zKM σ1 τ) hM1 hV (fun τ h1 h2 => ⟨rfl, h1, h2⟩)) (fun r2 σ2 H locs hR2 hP hS => ?_)
  obtain ⟨e2, hM2, hK2⟩ := hR2
  refine lv_icmp_eq (tgt := 947) X.1 X.2.1 dl_361 (by decide) (fun _ => ?_) (fun c9 => absurd (e1.trans e2.symm) c9)
  exact nx σ2 _ H locs (hF1.fr hK2) hM2 (zO_goes_V hV) hP hS
set_option maxRecDepth 100000 in
theorem lc_8 (X : cx_X g p room_1 s m #[Value.ref b] c A code 4 11 "FoxGeeseLaw" 64 1649) (hX : va_X b L xs s s.heap) (hbl : b < s.heap.size) (hbA : ¬ A b) (hl : lv_has ls 4 [(0, .ref b), (1, .ref (cx_ad g 0)), (2, .ref (cx_ad g 56)), (3, .int x3)]) (hin : lw_in x3 L) (nx : lw_N g p l e s m below meth c b A ls) (hF : zIF σ S) (hM : zIM σ S) (hV : zSV S) (hP : va_P g.2.2.2.1 cx_cl (cx_w g σ) H) (hS : va_S A s.heap H locs) : W p l e room_1 s m #[Value.ref b] below meth c H locs 64 1649 (lw_Z below #[Value.ref b] s) (F0 m 366 ls []) := by
  refine lv_aload_n X.1 X.2.1 dl_366 rfl (lv_at hl 1 rfl) ?_
  refine lv_aload_n X.1 X.2.1 dl_367 rfl (lv_at hl 0 rfl) ?_
  refine lv_iload_n X.1 X.2.1 dl_368 rfl (lv_at hl 3 rfl) ?_
  refine lv_iconst (v := 1) X.1 X.2.1 dl_369 (by decide) ?_
  refine lv_iadd X.1 X.2.1 dl_370 ?_
  refine va_sld X.1 X.2.1 hX hbl hbA hS hin.1 dl_371 ?_
  refine lv_aload_n X.1 X.2.1 dl_372 rfl (lv_at hl 0 rfl) ?_
  refine lv_iload_n X.1 X.2.1 dl_373 rfl (lv_at hl 3 rfl) ?_
  refine lv_iconst (v := 2) X.1 X.2.1 dl_374 (by decide) ?_
  refine lv_iadd X.1 X.2.1 dl_375 ?_
  refine va_sld X.1 X.2.1 hX hbl hbA hS hin.2.1 dl_376 ?_
  refine lc_callI X [.int (xs (x3 + 1).toNatClampNeg), .int (xs (x3 + 2).toNatClampNeg)] (y := 76) (k0 := 0) (ci := 4) (r := (nm_R4, nm_T4, 9)) (q := mq_F_moves) rfl rfl rfl ok_F_moves (cx_mem 544 (by decide +kernel) (by decide +kernel)) (cx_mem 545 (by decide +kernel) (by decide +kernel)) (cx_mem 546 (by decide +kernel) (by decide +kernel)) dl_377 rfl rfl hP hS hl.1 (Nat.le_of_ble_eq_true rfl) (p_F_moves (d := 6) (Rf := fun r τ => r = (zO_moves S (xs (x3 + 1).toNatClampNeg) (xs (x3 + 2).toNatClampNeg)).1 ∧ zIF τ (zO_moves S (xs (x3 + 1).toNatClampNeg) (xs (x3 + 2).toNatClampNeg)).2 ∧ zKF σ τ) hF hV (fun τ h1 h2 => ⟨rfl, h1, h2⟩)) (fun r1 σ1 H locs hR1 hP hS => ?_)
  obtain ⟨e1, hF1, hK1⟩ := hR1
  have hM1 := hM.fr hK1
  refine lv_aload_n X.1 X.2.1 dl_380 rfl (lv_at hl 2 rfl) ?_
  refine lv_aload_n X.1 X.2.1 dl_381 rfl (lv_at hl 0 rfl) ?_
  refine lv_iload_n X.1 X.2.1 dl_382 rfl (lv_at hl 3 rfl) ?_
  refine lv_iconst (v := 1) X.1 X.2.1 dl_383 (by decide) ?_
  refine lv_iadd X.1 X.2.1 dl_384 ?_
  refine va_sld X.1 X.2.1 hX hbl hbA hS hin.1 dl_385 ?_
  refine lv_aload_n X.1 X.2.1 dl_386 rfl (lv_at hl 0 rfl) ?_
  refine lv_iload_n X.1 X.2.1 dl_387 rfl (lv_at hl 3 rfl) ?_
  refine lv_iconst (v := 2) X.1 X.2.1 dl_388 (by decide) ?_
  refine lv_iadd X.1 X.2.1 dl_389 ?_
  refine va_sld X.1 X.2.1 hX hbl hbA hS hin.2.1 dl_390 ?_
  refine lc_callI X [.int (xs (x3 + 1).toNatClampNeg), .int (xs (x3 + 2).toNatClampNeg)] (y := 174) (k0 := 56) (ci := 5) (r := (nm_R5, nm_T5, 15)) (q := mq_M_moves) rfl rfl rfl ok_M_moves (cx_mem 1039 (by decide +kernel) (by decide +kernel)) (cx_mem 1040 (by decide +kernel) (by decide +kernel)) (cx_mem 1041 (by decide +kernel) (by decide +kernel)) dl_391 rfl rfl hP hS hl.1 (Nat.le_of_ble_eq_true rfl) (p_M_moves (d := 2) (Rf := fun r τ => r = (zO_moves S (xs (x3 + 1).toNatClampNeg) (xs (x3 + 2).toNatClampNeg)).1 ∧ zIM τ (zO_moves S (xs (x3 + 1).toNatClampNeg) (xs (x3 + 2).toNatClampNeg)).2 ∧ zKM σ1 τ) hM1 hV (fun τ h1 h2 => ⟨rfl, h1, h2⟩)) (fun r2 σ2 H locs hR2 hP hS => ?_)
  obtain ⟨e2, hM2, hK2⟩ := hR2
  refine lv_icmp_eq (tgt := 947) X.1 X.2.1 dl_394 (by decide) (fun _ => ?_) (fun c9 => absurd (e1.trans e2.symm) c9)
  exact nx σ2 _ H locs (hF1.fr hK2) hM2 (zO_moves_V hV) hP hS
set_option maxRecDepth 100000 in
theorem lc_9 (X : cx_X g p room_1 s m #[Value.ref b] c A code 4 11 "FoxGeeseLaw" 64 1649) (hX : va_X b L xs s s.heap) (hbl : b < s.heap.size) (hbA : ¬ A b) (hl : lv_has ls 4 [(0, .ref b), (1, .ref (cx_ad g 0)), (2, .ref (cx_ad g 56)), (3, .int x3)]) (hin : lw_in x3 L) (nx : lw_N g p l e s m below meth c b A ls) (hF : zIF σ S) (hM : zIM σ S) (hV : zSV S) (hP : va_P g.2.2.2.1 cx_cl (cx_w g σ) H) (hS : va_S A s.heap H locs) : W p l e room_1 s m #[Value.ref b] below meth c H locs 64 1649 (lw_Z below #[Value.ref b] s) (F0 m 399 ls []) := by
  refine lv_aload_n X.1 X.2.1 dl_399 rfl (lv_at hl 1 rfl) ?_
  refine lc_callI X [] (y := 77) (k0 := 0) (ci := 4) (r := (nm_R4, nm_T4, 9)) (q := mq_F_passes) rfl rfl rfl ok_F_passes (cx_mem 553 (by decide +kernel) (by decide +kernel)) (cx_mem 554 (by decide +kernel) (by decide +kernel)) (cx_mem 555 (by decide +kernel) (by decide +kernel)) dl_400 rfl rfl hP hS hl.1 (Nat.le_of_ble_eq_true rfl) (p_F_passes (d := 7) (Rf := fun r τ => r = (zO_passes S).1 ∧ zIF τ (zO_passes S).2 ∧ zKF σ τ) hF hV (fun τ h1 h2 => ⟨rfl, h1, h2⟩)) (fun r1 σ1 H locs hR1 hP hS => ?_)
  obtain ⟨e1, hF1, hK1⟩ := hR1
  have hM1 := hM.fr hK1
  refine lv_aload_n X.1 X.2.1 dl_403 rfl (lv_at hl 2 rfl) ?_
  refine lc_callI X [] (y := 175) (k0 := 56) (ci := 5) (r := (nm_R5, nm_T5, 15)) (q := mq_M_passes) rfl rfl rfl ok_M_passes (cx_mem 1043 (by decide +kernel) (by decide +kernel)) (cx_mem 1044 (by decide +kernel) (by decide +kernel)) (cx_mem 1045 (by decide +kernel) (by decide +kernel)) dl_404 rfl rfl hP hS hl.1 (Nat.le_of_ble_eq_true rfl) (p_M_passes (d := 2) (Rf := fun r τ => r = (zO_passes S).1 ∧ zIM τ (zO_passes S).2 ∧ zKM σ1 τ) hM1 hV (fun τ h1 h2 => ⟨rfl, h1, h2⟩)) (fun r2 σ2 H locs hR2 hP hS => ?_)
  obtain ⟨e2, hM2, hK2⟩ := hR2
  refine lv_icmp_eq (tgt := 947) X.1 X.2.1 dl_407 (by decide) (fun _ => ?_) (fun c9 => absurd (e1.trans e2.symm) c9)
  exact nx σ2 _ H locs (hF1.fr hK2) hM2 (zO_passes_V hV) hP hS
set_option maxRecDepth 100000 in
theorem lc_10 (X : cx_X g p room_1 s m #[Value.ref b] c A code 4 11 "FoxGeeseLaw" 64 1649) (hX : va_X b L xs s s.heap) (hbl : b < s.heap.size) (hbA : ¬ A b) (hl : lv_has ls 4 [(0, .ref b), (1, .ref (cx_ad g 0)), (2, .ref (cx_ad g 56)), (3, .int x3)]) (hin : lw_in x3 L) (nx : lw_N g p l e s m below meth c b A ls) (hF : zIF σ S) (hM : zIM σ S) (hV : zSV S) (hP : va_P g.2.2.2.1 cx_cl (cx_w g σ) H) (hS : va_S A s.heap H locs) : W p l e room_1 s m #[Value.ref b] below meth c H locs 64 1649 (lw_Z below #[Value.ref b] s) (F0 m 412 ls []) := by
  refine lv_aload_n X.1 X.2.1 dl_412 rfl (lv_at hl 1 rfl) ?_
  refine lc_callI X [] (y := 78) (k0 := 0) (ci := 4) (r := (nm_R4, nm_T4, 9)) (q := mq_F_undo) rfl rfl rfl ok_F_undo (cx_mem 559 (by decide +kernel) (by decide +kernel)) (cx_mem 560 (by decide +kernel) (by decide +kernel)) (cx_mem 561 (by decide +kernel) (by decide +kernel)) dl_413 rfl rfl hP hS hl.1 (Nat.le_of_ble_eq_true rfl) (p_F_undo (d := 9) (Rf := fun r τ => r = (zO_undo S).1 ∧ zIF τ (zO_undo S).2 ∧ zKF σ τ) hF hV (fun τ h1 h2 => ⟨rfl, h1, h2⟩)) (fun r1 σ1 H locs hR1 hP hS => ?_)
  obtain ⟨e1, hF1, hK1⟩ := hR1
  have hM1 := hM.fr hK1
  refine lv_aload_n X.1 X.2.1 dl_416 rfl (lv_at hl 2 rfl) ?_
  refine lc_callI X [] (y := 176) (k0 := 56) (ci := 5) (r := (nm_R5, nm_T5, 15)) (q := mq_M_undo) rfl rfl rfl ok_M_undo (cx_mem 1047 (by decide +kernel) (by decide +kernel)) (cx_mem 1048 (by decide +kernel) (by decide +kernel)) (cx_mem 1049 (by decide +kernel) (by decide +kernel)) dl_417 rfl rfl hP hS hl.1 (Nat.le_of_ble_eq_true rfl) (p_M_undo2 (d := 9) (Rf := fun r τ => r = (zO_undo S).1 ∧ zIM τ (zO_undo S).2 ∧ zKM σ1 τ) hM1 hV (fun τ h1 h2 => ⟨rfl, h1, h2⟩)) (fun r2 σ2 H locs hR2 hP hS => ?_)
  obtain ⟨e2, hM2, hK2⟩ := hR2
  refine lv_icmp_eq (tgt := 947) X.1 X.2.1 dl_420 (by decide) (fun _ => ?_) (fun c9 => absurd (e1.trans e2.symm) c9)
  exact nx σ2 _ H locs (hF1.fr hK2) hM2 (zO_undo_V hV) hP hS
set_option maxRecDepth 100000 in
theorem lc_11 (X : cx_X g p room_1 s m #[Value.ref b] c A code 4 11 "FoxGeeseLaw" 64 1649) (hX : va_X b L xs s s.heap) (hbl : b < s.heap.size) (hbA : ¬ A b) (hl : lv_has ls 4 [(0, .ref b), (1, .ref (cx_ad g 0)), (2, .ref (cx_ad g 56)), (3, .int x3)]) (hin : lw_in x3 L) (nx : lw_N g p l e s m below meth c b A ls) (hF : zIF σ S) (hM : zIM σ S) (hV : zSV S) (hP : va_P g.2.2.2.1 cx_cl (cx_w g σ) H) (hS : va_S A s.heap H locs) : W p l e room_1 s m #[Value.ref b] below meth c H locs 64 1649 (lw_Z below #[Value.ref b] s) (F0 m 425 ls []) := by
  refine lv_aload_n X.1 X.2.1 dl_425 rfl (lv_at hl 1 rfl) ?_
  refine lv_aload_n X.1 X.2.1 dl_426 rfl (lv_at hl 0 rfl) ?_
  refine lv_iload_n X.1 X.2.1 dl_427 rfl (lv_at hl 3 rfl) ?_
  refine lv_iconst (v := 1) X.1 X.2.1 dl_428 (by decide) ?_
  refine lv_iadd X.1 X.2.1 dl_429 ?_
  refine va_sld X.1 X.2.1 hX hbl hbA hS hin.1 dl_430 ?_
  refine lv_aload_n X.1 X.2.1 dl_431 rfl (lv_at hl 0 rfl) ?_
  refine lv_iload_n X.1 X.2.1 dl_432 rfl (lv_at hl 3 rfl) ?_
  refine lv_iconst (v := 2) X.1 X.2.1 dl_433 (by decide) ?_
  refine lv_iadd X.1 X.2.1 dl_434 ?_
  refine va_sld X.1 X.2.1 hX hbl hbA hS hin.2.1 dl_435 ?_
  refine lc_callI X [.int (xs (x3 + 1).toNatClampNeg), .int (xs (x3 + 2).toNatClampNeg)] (y := 79) (k0 := 0) (ci := 4) (r := (nm_R4, nm_T4, 9)) (q := mq_F_of) rfl rfl rfl ok_F_of (cx_mem 567 (by decide +kernel) (by decide +kernel)) (cx_mem 568 (by decide +kernel) (by decide +kernel)) (cx_mem 569 (by decide +kernel) (by decide +kernel)) dl_436 rfl rfl hP hS hl.1 (Nat.le_of_ble_eq_true rfl) (p_F_of (d := 8) (Rf := fun r τ => r = (zO_of S (xs (x3 + 1).toNatClampNeg) (xs (x3 + 2).toNatClampNeg)).1 ∧ zIF τ (zO_of S (xs (x3 + 1).toNatClampNeg) (xs (x3 + 2).toNatClampNeg)).2 ∧ zKF σ τ) hF hV (fun τ h1 h2 => ⟨rfl, h1, h2⟩)) (fun r1 σ1 H locs hR1 hP hS => ?_)
  obtain ⟨e1, hF1, hK1⟩ := hR1
  have hM1 := hM.fr hK1
  refine lv_aload_n X.1 X.2.1 dl_439 rfl (lv_at hl 2 rfl) ?_
  refine lv_aload_n X.1 X.2.1 dl_440 rfl (lv_at hl 0 rfl) ?_
  refine lv_iload_n X.1 X.2.1 dl_441 rfl (lv_at hl 3 rfl) ?_
  refine lv_iconst (v := 1) X.1 X.2.1 dl_442 (by decide) ?_
  refine lv_iadd X.1 X.2.1 dl_443 ?_
  refine va_sld X.1 X.2.1 hX hbl hbA hS hin.1 dl_444 ?_
  refine lv_aload_n X.1 X.2.1 dl_445 rfl (lv_at hl 0 rfl) ?_
  refine lv_iload_n X.1 X.2.1 dl_446 rfl (lv_at hl 3 rfl) ?_
  refine lv_iconst (v := 2) X.1 X.2.1 dl_447 (by decide) ?_
  refine lv_iadd X.1 X.2.1 dl_448 ?_
  refine va_sld X.1 X.2.1 hX hbl hbA hS hin.2.1 dl_449 ?_
  refine lc_callI X [.int (xs (x3 + 1).toNatClampNeg), .int (xs (x3 + 2).toNatClampNeg)] (y := 177) (k0 := 56) (ci := 5) (r := (nm_R5, nm_T5, 15)) (q := mq_M_of) rfl rfl rfl ok_M_of (cx_mem 1051 (by decide +kernel) (by decide +kernel)) (cx_mem 1052 (by decide +kernel) (by decide +kernel)) (cx_mem 1053 (by decide +kernel) (by decide +kernel)) dl_450 rfl rfl hP hS hl.1 (Nat.le_of_ble_eq_true rfl) (p_M_of (d := 9) (Rf := fun r τ => r = (zO_of S (xs (x3 + 1).toNatClampNeg) (xs (x3 + 2).toNatClampNeg)).1 ∧ zIM τ (zO_of S (xs (x3 + 1).toNatClampNeg) (xs (x3 + 2).toNatClampNeg)).2 ∧ zKM σ1 τ) hM1 hV (fun τ h1 h2 => ⟨rfl, h1, h2⟩)) (fun r2 σ2 H locs hR2 hP hS => ?_)
  obtain ⟨e2, hM2, hK2⟩ := hR2
  refine lv_icmp_eq (tgt := 947) X.1 X.2.1 dl_453 (by decide) (fun _ => ?_) (fun c9 => absurd (e1.trans e2.symm) c9)
  exact nx σ2 _ H locs (hF1.fr hK2) hM2 (zO_of_V hV) hP hS
set_option maxRecDepth 100000 in
theorem lc_12 (X : cx_X g p room_1 s m #[Value.ref b] c A code 4 11 "FoxGeeseLaw" 64 1649) (hX : va_X b L xs s s.heap) (hbl : b < s.heap.size) (hbA : ¬ A b) (hl : lv_has ls 4 [(0, .ref b), (1, .ref (cx_ad g 0)), (2, .ref (cx_ad g 56)), (3, .int x3)]) (hin : lw_in x3 L) (nx : lw_N g p l e s m below meth c b A ls) (hF : zIF σ S) (hM : zIM σ S) (hV : zSV S) (hP : va_P g.2.2.2.1 cx_cl (cx_w g σ) H) (hS : va_S A s.heap H locs) : W p l e room_1 s m #[Value.ref b] below meth c H locs 64 1649 (lw_Z below #[Value.ref b] s) (F0 m 458 ls []) := by
  refine lv_aload_n X.1 X.2.1 dl_458 rfl (lv_at hl 1 rfl) ?_
  refine lv_aload_n X.1 X.2.1 dl_459 rfl (lv_at hl 0 rfl) ?_
  refine lv_iload_n X.1 X.2.1 dl_460 rfl (lv_at hl 3 rfl) ?_
  refine lv_iconst (v := 1) X.1 X.2.1 dl_461 (by decide) ?_
  refine lv_iadd X.1 X.2.1 dl_462 ?_
  refine va_sld X.1 X.2.1 hX hbl hbA hS hin.1 dl_463 ?_
  refine lc_callI X [.int (xs (x3 + 1).toNatClampNeg)] (y := 80) (k0 := 0) (ci := 4) (r := (nm_R4, nm_T4, 9)) (q := mq_F_can) rfl rfl rfl ok_F_can (cx_mem 576 (by decide +kernel) (by decide +kernel)) (cx_mem 577 (by decide +kernel) (by decide +kernel)) (cx_mem 578 (by decide +kernel) (by decide +kernel)) dl_464 rfl rfl hP hS hl.1 (Nat.le_of_ble_eq_true rfl) (p_F_can (d := 7) (Rf := fun r τ => r = (zO_can S (xs (x3 + 1).toNatClampNeg)).1 ∧ zIF τ (zO_can S (xs (x3 + 1).toNatClampNeg)).2 ∧ zKF σ τ) hF hV (fun τ h1 h2 => ⟨rfl, h1, h2⟩)) (fun r1 σ1 H locs hR1 hP hS => ?_)
  obtain ⟨e1, hF1, hK1⟩ := hR1
  have hM1 := hM.fr hK1
  refine lv_aload_n X.1 X.2.1 dl_467 rfl (lv_at hl 2 rfl) ?_
  refine lv_aload_n X.1 X.2.1 dl_468 rfl (lv_at hl 0 rfl) ?_
  refine lv_iload_n X.1 X.2.1 dl_469 rfl (lv_at hl 3 rfl) ?_
  refine lv_iconst (v := 1) X.1 X.2.1 dl_470 (by decide) ?_
  refine lv_iadd X.1 X.2.1 dl_471 ?_
  refine va_sld X.1 X.2.1 hX hbl hbA hS hin.1 dl_472 ?_
  refine lc_callI X [.int (xs (x3 + 1).toNatClampNeg)] (y := 178) (k0 := 56) (ci := 5) (r := (nm_R5, nm_T5, 15)) (q := mq_M_can) rfl rfl rfl ok_M_can (cx_mem 1055 (by decide +kernel) (by decide +kernel)) (cx_mem 1056 (by decide +kernel) (by decide +kernel)) (cx_mem 1057 (by decide +kernel) (by decide +kernel)) dl_473 rfl rfl hP hS hl.1 (Nat.le_of_ble_eq_true rfl) (p_M_can (d := 4) (Rf := fun r τ => r = (zO_can S (xs (x3 + 1).toNatClampNeg)).1 ∧ zIM τ (zO_can S (xs (x3 + 1).toNatClampNeg)).2 ∧ zKM σ1 τ) hM1 hV (fun τ h1 h2 => ⟨rfl, h1, h2⟩)) (fun r2 σ2 H locs hR2 hP hS => ?_)
  obtain ⟨e2, hM2, hK2⟩ := hR2
  refine lv_icmp_eq (tgt := 947) X.1 X.2.1 dl_476 (by decide) (fun _ => ?_) (fun c9 => absurd (e1.trans e2.symm) c9)
  exact nx σ2 _ H locs (hF1.fr hK2) hM2 (zO_can_V hV) hP hS
set_option maxRecDepth 100000 in
theorem lc_13 (X : cx_X g p room_1 s m #[Value.ref b] c A code 4 11 "FoxGeeseLaw" 64 1649) (hX : va_X b L xs s s.heap) (hbl : b < s.heap.size) (hbA : ¬ A b) (hl : lv_has ls 4 [(0, .ref b), (1, .ref (cx_ad g 0)), (2, .ref (cx_ad g 56)), (3, .int x3)]) (hin : lw_in x3 L) (nx : lw_N g p l e s m below meth c b A ls) (hF : zIF σ S) (hM : zIM σ S) (hV : zSV S) (hP : va_P g.2.2.2.1 cx_cl (cx_w g σ) H) (hS : va_S A s.heap H locs) : W p l e room_1 s m #[Value.ref b] below meth c H locs 64 1649 (lw_Z below #[Value.ref b] s) (F0 m 481 ls []) := by
  refine lv_aload_n X.1 X.2.1 dl_481 rfl (lv_at hl 1 rfl) ?_
  refine lv_aload_n X.1 X.2.1 dl_482 rfl (lv_at hl 0 rfl) ?_
  refine lv_iload_n X.1 X.2.1 dl_483 rfl (lv_at hl 3 rfl) ?_
  refine lv_iconst (v := 1) X.1 X.2.1 dl_484 (by decide) ?_
  refine lv_iadd X.1 X.2.1 dl_485 ?_
  refine va_sld X.1 X.2.1 hX hbl hbA hS hin.1 dl_486 ?_
  refine lc_callI X [.int (xs (x3 + 1).toNatClampNeg)] (y := 81) (k0 := 0) (ci := 4) (r := (nm_R4, nm_T4, 9)) (q := mq_F_worth) rfl rfl rfl ok_F_worth (cx_mem 581 (by decide +kernel) (by decide +kernel)) (cx_mem 582 (by decide +kernel) (by decide +kernel)) (cx_mem 583 (by decide +kernel) (by decide +kernel)) dl_487 rfl rfl hP hS hl.1 (Nat.le_of_ble_eq_true rfl) (p_F_worth (d := 1) (Rf := fun r τ => r = (zO_worth S (xs (x3 + 1).toNatClampNeg)).1 ∧ zIF τ (zO_worth S (xs (x3 + 1).toNatClampNeg)).2 ∧ zKF σ τ) hF hV (fun τ h1 h2 => ⟨rfl, h1, h2⟩)) (fun r1 σ1 H locs hR1 hP hS => ?_)
  obtain ⟨e1, hF1, hK1⟩ := hR1
  have hM1 := hM.fr hK1
  refine lv_aload_n X.1 X.2.1 dl_490 rfl (lv_at hl 2 rfl) ?_
  refine lv_aload_n X.1 X.2.1 dl_491 rfl (lv_at hl 0 rfl) ?_
  refine lv_iload_n X.1 X.2.1 dl_492 rfl (lv_at hl 3 rfl) ?_
  refine lv_iconst (v := 1) X.1 X.2.1 dl_493 (by decide) ?_
  refine lv_iadd X.1 X.2.1 dl_494 ?_
  refine va_sld X.1 X.2.1 hX hbl hbA hS hin.1 dl_495 ?_
  refine lc_callI X [.int (xs (x3 + 1).toNatClampNeg)] (y := 183) (k0 := 56) (ci := 5) (r := (nm_R5, nm_T5, 15)) (q := mq_M_worth) rfl rfl rfl ok_M_worth (cx_mem 1059 (by decide +kernel) (by decide +kernel)) (cx_mem 1060 (by decide +kernel) (by decide +kernel)) (cx_mem 1061 (by decide +kernel) (by decide +kernel)) dl_496 rfl rfl hP hS hl.1 (Nat.le_of_ble_eq_true rfl) (p_M_worth (d := 2) (Rf := fun r τ => r = (zO_worth S (xs (x3 + 1).toNatClampNeg)).1 ∧ zIM τ (zO_worth S (xs (x3 + 1).toNatClampNeg)).2 ∧ zKM σ1 τ) hM1 hV (fun τ h1 h2 => ⟨rfl, h1, h2⟩)) (fun r2 σ2 H locs hR2 hP hS => ?_)
  obtain ⟨e2, hM2, hK2⟩ := hR2
  refine lv_icmp_eq (tgt := 947) X.1 X.2.1 dl_499 (by decide) (fun _ => ?_) (fun c9 => absurd (e1.trans e2.symm) c9)
  exact nx σ2 _ H locs (hF1.fr hK2) hM2 (zO_worth_V hV) hP hS
set_option maxRecDepth 100000 in
theorem lc_14 (X : cx_X g p room_1 s m #[Value.ref b] c A code 4 11 "FoxGeeseLaw" 64 1649) (hX : va_X b L xs s s.heap) (hbl : b < s.heap.size) (hbA : ¬ A b) (hl : lv_has ls 4 [(0, .ref b), (1, .ref (cx_ad g 0)), (2, .ref (cx_ad g 56)), (3, .int x3)]) (hin : lw_in x3 L) (nx : lw_N g p l e s m below meth c b A ls) (hF : zIF σ S) (hM : zIM σ S) (hV : zSV S) (hP : va_P g.2.2.2.1 cx_cl (cx_w g σ) H) (hS : va_S A s.heap H locs) : W p l e room_1 s m #[Value.ref b] below meth c H locs 64 1649 (lw_Z below #[Value.ref b] s) (F0 m 504 ls []) := by
  refine lv_aload_n X.1 X.2.1 dl_504 rfl (lv_at hl 1 rfl) ?_
  refine lv_aload_n X.1 X.2.1 dl_505 rfl (lv_at hl 0 rfl) ?_
  refine lv_iload_n X.1 X.2.1 dl_506 rfl (lv_at hl 3 rfl) ?_
  refine lv_iconst (v := 1) X.1 X.2.1 dl_507 (by decide) ?_
  refine lv_iadd X.1 X.2.1 dl_508 ?_
  refine va_sld X.1 X.2.1 hX hbl hbA hS hin.1 dl_509 ?_
  refine lc_callI X [.int (xs (x3 + 1).toNatClampNeg)] (y := 82) (k0 := 0) (ci := 4) (r := (nm_R4, nm_T4, 9)) (q := mq_F_best) rfl rfl rfl ok_F_best (cx_mem 603 (by decide +kernel) (by decide +kernel)) (cx_mem 604 (by decide +kernel) (by decide +kernel)) (cx_mem 605 (by decide +kernel) (by decide +kernel)) dl_510 rfl rfl hP hS hl.1 (Nat.le_of_ble_eq_true rfl) (p_F_best (d := 1) (Rf := fun r τ => r = (zO_best S (xs (x3 + 1).toNatClampNeg)).1 ∧ zIF τ (zO_best S (xs (x3 + 1).toNatClampNeg)).2 ∧ zKF σ τ) hF hV (fun τ h1 h2 => ⟨rfl, h1, h2⟩)) (fun r1 σ1 H locs hR1 hP hS => ?_)
  obtain ⟨e1, hF1, hK1⟩ := hR1
  have hM1 := hM.fr hK1
  refine lv_aload_n X.1 X.2.1 dl_513 rfl (lv_at hl 2 rfl) ?_
  refine lv_aload_n X.1 X.2.1 dl_514 rfl (lv_at hl 0 rfl) ?_
  refine lv_iload_n X.1 X.2.1 dl_515 rfl (lv_at hl 3 rfl) ?_
  refine lv_iconst (v := 1) X.1 X.2.1 dl_516 (by decide) ?_
  refine lv_iadd X.1 X.2.1 dl_517 ?_
  refine va_sld X.1 X.2.1 hX hbl hbA hS hin.1 dl_518 ?_
  refine lc_callI X [.int (xs (x3 + 1).toNatClampNeg)] (y := 184) (k0 := 56) (ci := 5) (r := (nm_R5, nm_T5, 15)) (q := mq_M_best) rfl rfl rfl ok_M_best (cx_mem 1080 (by decide +kernel) (by decide +kernel)) (cx_mem 1081 (by decide +kernel) (by decide +kernel)) (cx_mem 1082 (by decide +kernel) (by decide +kernel)) dl_519 rfl rfl hP hS hl.1 (Nat.le_of_ble_eq_true rfl) (p_M_best (d := 2) (Rf := fun r τ => r = (zO_best S (xs (x3 + 1).toNatClampNeg)).1 ∧ zIM τ (zO_best S (xs (x3 + 1).toNatClampNeg)).2 ∧ zKM σ1 τ) hM1 hV (fun τ h1 h2 => ⟨rfl, h1, h2⟩)) (fun r2 σ2 H locs hR2 hP hS => ?_)
  obtain ⟨e2, hM2, hK2⟩ := hR2
  refine lv_icmp_eq (tgt := 947) X.1 X.2.1 dl_522 (by decide) (fun _ => ?_) (fun c9 => absurd (e1.trans e2.symm) c9)
  exact nx σ2 _ H locs (hF1.fr hK2) hM2 (zO_best_V hV) hP hS
set_option maxRecDepth 100000 in
theorem lc_15 (X : cx_X g p room_1 s m #[Value.ref b] c A code 4 11 "FoxGeeseLaw" 64 1649) (hX : va_X b L xs s s.heap) (hbl : b < s.heap.size) (hbA : ¬ A b) (hl : lv_has ls 4 [(0, .ref b), (1, .ref (cx_ad g 0)), (2, .ref (cx_ad g 56)), (3, .int x3)]) (hin : lw_in x3 L) (nx : lw_N g p l e s m below meth c b A ls) (hF : zIF σ S) (hM : zIM σ S) (hV : zSV S) (hP : va_P g.2.2.2.1 cx_cl (cx_w g σ) H) (hS : va_S A s.heap H locs) : W p l e room_1 s m #[Value.ref b] below meth c H locs 64 1649 (lw_Z below #[Value.ref b] s) (F0 m 527 ls []) := by
  refine lv_aload_n X.1 X.2.1 dl_527 rfl (lv_at hl 1 rfl) ?_
  refine lc_callI X [] (y := 83) (k0 := 0) (ci := 4) (r := (nm_R4, nm_T4, 9)) (q := mq_F_few) rfl rfl rfl ok_F_few (cx_mem 607 (by decide +kernel) (by decide +kernel)) (cx_mem 608 (by decide +kernel) (by decide +kernel)) (cx_mem 609 (by decide +kernel) (by decide +kernel)) dl_528 rfl rfl hP hS hl.1 (Nat.le_of_ble_eq_true rfl) (p_F_few (d := 7) (Rf := fun r τ => r = (zO_few S).1 ∧ zIF τ (zO_few S).2 ∧ zKF σ τ) hF hV (fun τ h1 h2 => ⟨rfl, h1, h2⟩)) (fun r1 σ1 H locs hR1 hP hS => ?_)
  obtain ⟨e1, hF1, hK1⟩ := hR1
  have hM1 := hM.fr hK1
  refine lv_aload_n X.1 X.2.1 dl_531 rfl (lv_at hl 2 rfl) ?_
  refine lc_callI X [] (y := 185) (k0 := 56) (ci := 5) (r := (nm_R5, nm_T5, 15)) (q := mq_M_few) rfl rfl rfl ok_M_few (cx_mem 1084 (by decide +kernel) (by decide +kernel)) (cx_mem 1085 (by decide +kernel) (by decide +kernel)) (cx_mem 1086 (by decide +kernel) (by decide +kernel)) dl_532 rfl rfl hP hS hl.1 (Nat.le_of_ble_eq_true rfl) (p_M_few (d := 3) (Rf := fun r τ => r = (zO_few S).1 ∧ zIM τ (zO_few S).2 ∧ zKM σ1 τ) hM1 hV (fun τ h1 h2 => ⟨rfl, h1, h2⟩)) (fun r2 σ2 H locs hR2 hP hS => ?_)
  obtain ⟨e2, hM2, hK2⟩ := hR2
  refine lv_icmp_eq (tgt := 947) X.1 X.2.1 dl_535 (by decide) (fun _ => ?_) (fun c9 => absurd (e1.trans e2.symm) c9)
  exact nx σ2 _ H locs (hF1.fr hK2) hM2 (show zSV (zO_few S).2 from hV) hP hS
set_option maxRecDepth 100000 in
theorem lc_16 (X : cx_X g p room_1 s m #[Value.ref b] c A code 4 11 "FoxGeeseLaw" 64 1649) (hX : va_X b L xs s s.heap) (hbl : b < s.heap.size) (hbA : ¬ A b) (hl : lv_has ls 4 [(0, .ref b), (1, .ref (cx_ad g 0)), (2, .ref (cx_ad g 56)), (3, .int x3)]) (hin : lw_in x3 L) (nx : lw_N g p l e s m below meth c b A ls) (hF : zIF σ S) (hM : zIM σ S) (hV : zSV S) (hP : va_P g.2.2.2.1 cx_cl (cx_w g σ) H) (hS : va_S A s.heap H locs) : W p l e room_1 s m #[Value.ref b] below meth c H locs 64 1649 (lw_Z below #[Value.ref b] s) (F0 m 540 ls []) := by
  refine lv_aload_n X.1 X.2.1 dl_540 rfl (lv_at hl 1 rfl) ?_
  refine lv_aload_n X.1 X.2.1 dl_541 rfl (lv_at hl 0 rfl) ?_
  refine lv_iload_n X.1 X.2.1 dl_542 rfl (lv_at hl 3 rfl) ?_
  refine lv_iconst (v := 1) X.1 X.2.1 dl_543 (by decide) ?_
  refine lv_iadd X.1 X.2.1 dl_544 ?_
  refine va_sld X.1 X.2.1 hX hbl hbA hS hin.1 dl_545 ?_
  refine lc_callI X [.int (xs (x3 + 1).toNatClampNeg)] (y := 84) (k0 := 0) (ci := 4) (r := (nm_R4, nm_T4, 9)) (q := mq_F_luck) rfl rfl rfl ok_F_luck (cx_mem 615 (by decide +kernel) (by decide +kernel)) (cx_mem 616 (by decide +kernel) (by decide +kernel)) (cx_mem 617 (by decide +kernel) (by decide +kernel)) dl_546 rfl rfl hP hS hl.1 (Nat.le_of_ble_eq_true rfl) (p_F_luck (d := 1) (Rf := fun r τ => r = (zO_luck S (xs (x3 + 1).toNatClampNeg)).1 ∧ zIF τ (zO_luck S (xs (x3 + 1).toNatClampNeg)).2 ∧ zKF σ τ) hF hV (fun τ h1 h2 => ⟨rfl, h1, h2⟩)) (fun r1 σ1 H locs hR1 hP hS => ?_)
  obtain ⟨e1, hF1, hK1⟩ := hR1
  have hM1 := hM.fr hK1
  refine lv_aload_n X.1 X.2.1 dl_549 rfl (lv_at hl 2 rfl) ?_
  refine lv_aload_n X.1 X.2.1 dl_550 rfl (lv_at hl 0 rfl) ?_
  refine lv_iload_n X.1 X.2.1 dl_551 rfl (lv_at hl 3 rfl) ?_
  refine lv_iconst (v := 1) X.1 X.2.1 dl_552 (by decide) ?_
  refine lv_iadd X.1 X.2.1 dl_553 ?_
  refine va_sld X.1 X.2.1 hX hbl hbA hS hin.1 dl_554 ?_
  refine lc_callI X [.int (xs (x3 + 1).toNatClampNeg)] (y := 189) (k0 := 56) (ci := 5) (r := (nm_R5, nm_T5, 15)) (q := mq_M_luck) rfl rfl rfl ok_M_luck (cx_mem 1092 (by decide +kernel) (by decide +kernel)) (cx_mem 1093 (by decide +kernel) (by decide +kernel)) (cx_mem 1094 (by decide +kernel) (by decide +kernel)) dl_555 rfl rfl hP hS hl.1 (Nat.le_of_ble_eq_true rfl) (p_M_luck (d := 3) (Rf := fun r τ => r = (zO_luck S (xs (x3 + 1).toNatClampNeg)).1 ∧ zIM τ (zO_luck S (xs (x3 + 1).toNatClampNeg)).2 ∧ zKM σ1 τ) hM1 hV (fun τ h1 h2 => ⟨rfl, h1, h2⟩)) (fun r2 σ2 H locs hR2 hP hS => ?_)
  obtain ⟨e2, hM2, hK2⟩ := hR2
  refine lv_icmp_eq (tgt := 947) X.1 X.2.1 dl_558 (by decide) (fun _ => ?_) (fun c9 => absurd (e1.trans e2.symm) c9)
  exact nx σ2 _ H locs (hF1.fr hK2) hM2 (zO_luck_V hV) hP hS
set_option maxRecDepth 100000 in
theorem lc_17 (X : cx_X g p room_1 s m #[Value.ref b] c A code 4 11 "FoxGeeseLaw" 64 1649) (hX : va_X b L xs s s.heap) (hbl : b < s.heap.size) (hbA : ¬ A b) (hl : lv_has ls 4 [(0, .ref b), (1, .ref (cx_ad g 0)), (2, .ref (cx_ad g 56)), (3, .int x3)]) (hin : lw_in x3 L) (nx : lw_N g p l e s m below meth c b A ls) (hF : zIF σ S) (hM : zIM σ S) (hV : zSV S) (hP : va_P g.2.2.2.1 cx_cl (cx_w g σ) H) (hS : va_S A s.heap H locs) : W p l e room_1 s m #[Value.ref b] below meth c H locs 64 1649 (lw_Z below #[Value.ref b] s) (F0 m 563 ls []) := by
  refine lv_aload_n X.1 X.2.1 dl_563 rfl (lv_at hl 1 rfl) ?_
  refine lv_aload_n X.1 X.2.1 dl_564 rfl (lv_at hl 0 rfl) ?_
  refine lv_iload_n X.1 X.2.1 dl_565 rfl (lv_at hl 3 rfl) ?_
  refine lv_iconst (v := 1) X.1 X.2.1 dl_566 (by decide) ?_
  refine lv_iadd X.1 X.2.1 dl_567 ?_
  refine va_sld X.1 X.2.1 hX hbl hbA hS hin.1 dl_568 ?_
  refine lv_aload_n X.1 X.2.1 dl_569 rfl (lv_at hl 0 rfl) ?_
  refine lv_iload_n X.1 X.2.1 dl_570 rfl (lv_at hl 3 rfl) ?_
  refine lv_iconst (v := 2) X.1 X.2.1 dl_571 (by decide) ?_
  refine lv_iadd X.1 X.2.1 dl_572 ?_
  refine va_sld X.1 X.2.1 hX hbl hbA hS hin.2.1 dl_573 ?_
  refine lv_aload_n X.1 X.2.1 dl_574 rfl (lv_at hl 0 rfl) ?_
  refine lv_iload_n X.1 X.2.1 dl_575 rfl (lv_at hl 3 rfl) ?_
  refine lv_iconst (v := 3) X.1 X.2.1 dl_576 (by decide) ?_
  refine lv_iadd X.1 X.2.1 dl_577 ?_
  refine va_sld X.1 X.2.1 hX hbl hbA hS hin.2.2.1 dl_578 ?_
  refine lv_aload_n X.1 X.2.1 dl_579 rfl (lv_at hl 0 rfl) ?_
  refine lv_iload_n X.1 X.2.1 dl_580 rfl (lv_at hl 3 rfl) ?_
  refine lv_iconst (v := 4) X.1 X.2.1 dl_581 (by decide) ?_
  refine lv_iadd X.1 X.2.1 dl_582 ?_
  refine va_sld X.1 X.2.1 hX hbl hbA hS hin.2.2.2.1 dl_583 ?_
  refine lv_aload_n X.1 X.2.1 dl_584 rfl (lv_at hl 0 rfl) ?_
  refine lv_iload_n X.1 X.2.1 dl_585 rfl (lv_at hl 3 rfl) ?_
  refine lv_iconst (v := 5) X.1 X.2.1 dl_586 (by decide) ?_
  refine lv_iadd X.1 X.2.1 dl_587 ?_
  refine va_sld X.1 X.2.1 hX hbl hbA hS hin.2.2.2.2 dl_588 ?_
  refine lc_callI X [.int (xs (x3 + 1).toNatClampNeg), .int (xs (x3 + 2).toNatClampNeg), .int (xs (x3 + 3).toNatClampNeg), .int (xs (x3 + 4).toNatClampNeg), .int (xs (x3 + 5).toNatClampNeg)] (y := 85) (k0 := 0) (ci := 4) (r := (nm_R4, nm_T4, 9)) (q := mq_F_note) rfl rfl rfl ok_F_note (cx_mem 634 (by decide +kernel) (by decide +kernel)) (cx_mem 635 (by decide +kernel) (by decide +kernel)) (cx_mem 636 (by decide +kernel) (by decide +kernel)) dl_589 rfl rfl hP hS hl.1 (Nat.le_of_ble_eq_true rfl) (p_F_note (d := 8) (Rf := fun r τ => r = (zO_note S (xs (x3 + 1).toNatClampNeg) (xs (x3 + 2).toNatClampNeg) (xs (x3 + 3).toNatClampNeg) (xs (x3 + 4).toNatClampNeg) (xs (x3 + 5).toNatClampNeg)).1 ∧ zIF τ (zO_note S (xs (x3 + 1).toNatClampNeg) (xs (x3 + 2).toNatClampNeg) (xs (x3 + 3).toNatClampNeg) (xs (x3 + 4).toNatClampNeg) (xs (x3 + 5).toNatClampNeg)).2 ∧ zKF σ τ) hF hV (fun τ h1 h2 => ⟨rfl, h1, h2⟩)) (fun r1 σ1 H locs hR1 hP hS => ?_)
  obtain ⟨e1, hF1, hK1⟩ := hR1
  have hM1 := hM.fr hK1
  refine lv_aload_n X.1 X.2.1 dl_592 rfl (lv_at hl 2 rfl) ?_
  refine lv_aload_n X.1 X.2.1 dl_593 rfl (lv_at hl 0 rfl) ?_
  refine lv_iload_n X.1 X.2.1 dl_594 rfl (lv_at hl 3 rfl) ?_
  refine lv_iconst (v := 1) X.1 X.2.1 dl_595 (by decide) ?_
  refine lv_iadd X.1 X.2.1 dl_596 ?_
  refine va_sld X.1 X.2.1 hX hbl hbA hS hin.1 dl_597 ?_
  refine lv_aload_n X.1 X.2.1 dl_598 rfl (lv_at hl 0 rfl) ?_
  refine lv_iload_n X.1 X.2.1 dl_599 rfl (lv_at hl 3 rfl) ?_
  refine lv_iconst (v := 2) X.1 X.2.1 dl_600 (by decide) ?_
  refine lv_iadd X.1 X.2.1 dl_601 ?_
  refine va_sld X.1 X.2.1 hX hbl hbA hS hin.2.1 dl_602 ?_
  refine lv_aload_n X.1 X.2.1 dl_603 rfl (lv_at hl 0 rfl) ?_
  refine lv_iload_n X.1 X.2.1 dl_604 rfl (lv_at hl 3 rfl) ?_
  refine lv_iconst (v := 3) X.1 X.2.1 dl_605 (by decide) ?_
  refine lv_iadd X.1 X.2.1 dl_606 ?_
  refine va_sld X.1 X.2.1 hX hbl hbA hS hin.2.2.1 dl_607 ?_
  refine lv_aload_n X.1 X.2.1 dl_608 rfl (lv_at hl 0 rfl) ?_
  refine lv_iload_n X.1 X.2.1 dl_609 rfl (lv_at hl 3 rfl) ?_
  refine lv_iconst (v := 4) X.1 X.2.1 dl_610 (by decide) ?_
  refine lv_iadd X.1 X.2.1 dl_611 ?_
  refine va_sld X.1 X.2.1 hX hbl hbA hS hin.2.2.2.1 dl_612 ?_
  refine lv_aload_n X.1 X.2.1 dl_613 rfl (lv_at hl 0 rfl) ?_
  refine lv_iload_n X.1 X.2.1 dl_614 rfl (lv_at hl 3 rfl) ?_
  refine lv_iconst (v := 5) X.1 X.2.1 dl_615 (by decide) ?_
  refine lv_iadd X.1 X.2.1 dl_616 ?_
  refine va_sld X.1 X.2.1 hX hbl hbA hS hin.2.2.2.2 dl_617 ?_
  refine lc_callI X [.int (xs (x3 + 1).toNatClampNeg), .int (xs (x3 + 2).toNatClampNeg), .int (xs (x3 + 3).toNatClampNeg), .int (xs (x3 + 4).toNatClampNeg), .int (xs (x3 + 5).toNatClampNeg)] (y := 192) (k0 := 56) (ci := 5) (r := (nm_R5, nm_T5, 15)) (q := mq_M_note) rfl rfl rfl ok_M_note (cx_mem 1105 (by decide +kernel) (by decide +kernel)) (cx_mem 1106 (by decide +kernel) (by decide +kernel)) (cx_mem 1107 (by decide +kernel) (by decide +kernel)) dl_618 rfl rfl hP hS hl.1 (Nat.le_of_ble_eq_true rfl) (p_M_note (d := 8) (Rf := fun r τ => r = (zO_note S (xs (x3 + 1).toNatClampNeg) (xs (x3 + 2).toNatClampNeg) (xs (x3 + 3).toNatClampNeg) (xs (x3 + 4).toNatClampNeg) (xs (x3 + 5).toNatClampNeg)).1 ∧ zIM τ (zO_note S (xs (x3 + 1).toNatClampNeg) (xs (x3 + 2).toNatClampNeg) (xs (x3 + 3).toNatClampNeg) (xs (x3 + 4).toNatClampNeg) (xs (x3 + 5).toNatClampNeg)).2 ∧ zKM σ1 τ) hM1 hV (fun τ h1 h2 => ⟨rfl, h1, h2⟩)) (fun r2 σ2 H locs hR2 hP hS => ?_)
  obtain ⟨e2, hM2, hK2⟩ := hR2
  refine lv_icmp_eq (tgt := 947) X.1 X.2.1 dl_621 (by decide) (fun _ => ?_) (fun c9 => absurd (e1.trans e2.symm) c9)
  exact nx σ2 _ H locs (hF1.fr hK2) hM2 (zO_note_V hV) hP hS
set_option maxRecDepth 100000 in
theorem lc_18 (X : cx_X g p room_1 s m #[Value.ref b] c A code 4 11 "FoxGeeseLaw" 64 1649) (hX : va_X b L xs s s.heap) (hbl : b < s.heap.size) (hbA : ¬ A b) (hl : lv_has ls 4 [(0, .ref b), (1, .ref (cx_ad g 0)), (2, .ref (cx_ad g 56)), (3, .int x3)]) (hin : lw_in x3 L) (nx : lw_N g p l e s m below meth c b A ls) (hF : zIF σ S) (hM : zIM σ S) (hV : zSV S) (hP : va_P g.2.2.2.1 cx_cl (cx_w g σ) H) (hS : va_S A s.heap H locs) : W p l e room_1 s m #[Value.ref b] below meth c H locs 64 1649 (lw_Z below #[Value.ref b] s) (F0 m 626 ls []) := by
  refine lv_aload_n X.1 X.2.1 dl_626 rfl (lv_at hl 1 rfl) ?_
  refine lv_aload_n X.1 X.2.1 dl_627 rfl (lv_at hl 0 rfl) ?_
  refine lv_iload_n X.1 X.2.1 dl_628 rfl (lv_at hl 3 rfl) ?_
  refine lv_iconst (v := 1) X.1 X.2.1 dl_629 (by decide) ?_
  refine lv_iadd X.1 X.2.1 dl_630 ?_
  refine va_sld X.1 X.2.1 hX hbl hbA hS hin.1 dl_631 ?_
  refine lv_aload_n X.1 X.2.1 dl_632 rfl (lv_at hl 0 rfl) ?_
  refine lv_iload_n X.1 X.2.1 dl_633 rfl (lv_at hl 3 rfl) ?_
  refine lv_iconst (v := 2) X.1 X.2.1 dl_634 (by decide) ?_
  refine lv_iadd X.1 X.2.1 dl_635 ?_
  refine va_sld X.1 X.2.1 hX hbl hbA hS hin.2.1 dl_636 ?_
  refine lv_aload_n X.1 X.2.1 dl_637 rfl (lv_at hl 0 rfl) ?_
  refine lv_iload_n X.1 X.2.1 dl_638 rfl (lv_at hl 3 rfl) ?_
  refine lv_iconst (v := 3) X.1 X.2.1 dl_639 (by decide) ?_
  refine lv_iadd X.1 X.2.1 dl_640 ?_
  refine va_sld X.1 X.2.1 hX hbl hbA hS hin.2.2.1 dl_641 ?_
  refine lv_aload_n X.1 X.2.1 dl_642 rfl (lv_at hl 0 rfl) ?_
  refine lv_iload_n X.1 X.2.1 dl_643 rfl (lv_at hl 3 rfl) ?_
  refine lv_iconst (v := 4) X.1 X.2.1 dl_644 (by decide) ?_
  refine lv_iadd X.1 X.2.1 dl_645 ?_
  refine va_sld X.1 X.2.1 hX hbl hbA hS hin.2.2.2.1 dl_646 ?_
  refine lv_aload_n X.1 X.2.1 dl_647 rfl (lv_at hl 0 rfl) ?_
  refine lv_iload_n X.1 X.2.1 dl_648 rfl (lv_at hl 3 rfl) ?_
  refine lv_iconst (v := 5) X.1 X.2.1 dl_649 (by decide) ?_
  refine lv_iadd X.1 X.2.1 dl_650 ?_
  refine va_sld X.1 X.2.1 hX hbl hbA hS hin.2.2.2.2 dl_651 ?_
  refine lc_callI X [.int (xs (x3 + 1).toNatClampNeg), .int (xs (x3 + 2).toNatClampNeg), .int (xs (x3 + 3).toNatClampNeg), .int (xs (x3 + 4).toNatClampNeg), .int (xs (x3 + 5).toNatClampNeg)] (y := 86) (k0 := 0) (ci := 4) (r := (nm_R4, nm_T4, 9)) (q := mq_F_mark) rfl rfl rfl ok_F_mark (cx_mem 645 (by decide +kernel) (by decide +kernel)) (cx_mem 646 (by decide +kernel) (by decide +kernel)) (cx_mem 647 (by decide +kernel) (by decide +kernel)) dl_652 rfl rfl hP hS hl.1 (Nat.le_of_ble_eq_true rfl) (p_F_mark (d := 8) (Rf := fun r τ => r = (zO_mark S (xs (x3 + 1).toNatClampNeg) (xs (x3 + 2).toNatClampNeg) (xs (x3 + 3).toNatClampNeg) (xs (x3 + 4).toNatClampNeg) (xs (x3 + 5).toNatClampNeg)).1 ∧ zIF τ (zO_mark S (xs (x3 + 1).toNatClampNeg) (xs (x3 + 2).toNatClampNeg) (xs (x3 + 3).toNatClampNeg) (xs (x3 + 4).toNatClampNeg) (xs (x3 + 5).toNatClampNeg)).2 ∧ zKF σ τ) hF hV (fun τ h1 h2 => ⟨rfl, h1, h2⟩)) (fun r1 σ1 H locs hR1 hP hS => ?_)
  obtain ⟨e1, hF1, hK1⟩ := hR1
  have hM1 := hM.fr hK1
  refine lv_aload_n X.1 X.2.1 dl_655 rfl (lv_at hl 2 rfl) ?_
  refine lv_aload_n X.1 X.2.1 dl_656 rfl (lv_at hl 0 rfl) ?_
  refine lv_iload_n X.1 X.2.1 dl_657 rfl (lv_at hl 3 rfl) ?_
  refine lv_iconst (v := 1) X.1 X.2.1 dl_658 (by decide) ?_
  refine lv_iadd X.1 X.2.1 dl_659 ?_
  refine va_sld X.1 X.2.1 hX hbl hbA hS hin.1 dl_660 ?_
  refine lv_aload_n X.1 X.2.1 dl_661 rfl (lv_at hl 0 rfl) ?_
  refine lv_iload_n X.1 X.2.1 dl_662 rfl (lv_at hl 3 rfl) ?_
  refine lv_iconst (v := 2) X.1 X.2.1 dl_663 (by decide) ?_
  refine lv_iadd X.1 X.2.1 dl_664 ?_
  refine va_sld X.1 X.2.1 hX hbl hbA hS hin.2.1 dl_665 ?_
  refine lv_aload_n X.1 X.2.1 dl_666 rfl (lv_at hl 0 rfl) ?_
  refine lv_iload_n X.1 X.2.1 dl_667 rfl (lv_at hl 3 rfl) ?_
  refine lv_iconst (v := 3) X.1 X.2.1 dl_668 (by decide) ?_
  refine lv_iadd X.1 X.2.1 dl_669 ?_
  refine va_sld X.1 X.2.1 hX hbl hbA hS hin.2.2.1 dl_670 ?_
  refine lv_aload_n X.1 X.2.1 dl_671 rfl (lv_at hl 0 rfl) ?_
  refine lv_iload_n X.1 X.2.1 dl_672 rfl (lv_at hl 3 rfl) ?_
  refine lv_iconst (v := 4) X.1 X.2.1 dl_673 (by decide) ?_
  refine lv_iadd X.1 X.2.1 dl_674 ?_
  refine va_sld X.1 X.2.1 hX hbl hbA hS hin.2.2.2.1 dl_675 ?_
  refine lv_aload_n X.1 X.2.1 dl_676 rfl (lv_at hl 0 rfl) ?_
  refine lv_iload_n X.1 X.2.1 dl_677 rfl (lv_at hl 3 rfl) ?_
  refine lv_iconst (v := 5) X.1 X.2.1 dl_678 (by decide) ?_
  refine lv_iadd X.1 X.2.1 dl_679 ?_
  refine va_sld X.1 X.2.1 hX hbl hbA hS hin.2.2.2.2 dl_680 ?_
  refine lc_callI X [.int (xs (x3 + 1).toNatClampNeg), .int (xs (x3 + 2).toNatClampNeg), .int (xs (x3 + 3).toNatClampNeg), .int (xs (x3 + 4).toNatClampNeg), .int (xs (x3 + 5).toNatClampNeg)] (y := 193) (k0 := 56) (ci := 5) (r := (nm_R5, nm_T5, 15)) (q := mq_M_mark) rfl rfl rfl ok_M_mark (cx_mem 1118 (by decide +kernel) (by decide +kernel)) (cx_mem 1119 (by decide +kernel) (by decide +kernel)) (cx_mem 1120 (by decide +kernel) (by decide +kernel)) dl_681 rfl rfl hP hS hl.1 (Nat.le_of_ble_eq_true rfl) (p_M_mark (d := 8) (Rf := fun r τ => r = (zO_mark S (xs (x3 + 1).toNatClampNeg) (xs (x3 + 2).toNatClampNeg) (xs (x3 + 3).toNatClampNeg) (xs (x3 + 4).toNatClampNeg) (xs (x3 + 5).toNatClampNeg)).1 ∧ zIM τ (zO_mark S (xs (x3 + 1).toNatClampNeg) (xs (x3 + 2).toNatClampNeg) (xs (x3 + 3).toNatClampNeg) (xs (x3 + 4).toNatClampNeg) (xs (x3 + 5).toNatClampNeg)).2 ∧ zKM σ1 τ) hM1 hV (fun τ h1 h2 => ⟨rfl, h1, h2⟩)) (fun r2 σ2 H locs hR2 hP hS => ?_)
  obtain ⟨e2, hM2, hK2⟩ := hR2
  refine lv_icmp_eq (tgt := 947) X.1 X.2.1 dl_684 (by decide) (fun _ => ?_) (fun c9 => absurd (e1.trans e2.symm) c9)
  exact nx σ2 _ H locs (hF1.fr hK2) hM2 (zO_mark_V hV) hP hS
set_option maxRecDepth 100000 in
theorem lc_19 (X : cx_X g p room_1 s m #[Value.ref b] c A code 4 11 "FoxGeeseLaw" 64 1649) (hX : va_X b L xs s s.heap) (hbl : b < s.heap.size) (hbA : ¬ A b) (hl : lv_has ls 4 [(0, .ref b), (1, .ref (cx_ad g 0)), (2, .ref (cx_ad g 56)), (3, .int x3)]) (hin : lw_in x3 L) (nx : lw_N g p l e s m below meth c b A ls) (hF : zIF σ S) (hM : zIM σ S) (hV : zSV S) (hP : va_P g.2.2.2.1 cx_cl (cx_w g σ) H) (hS : va_S A s.heap H locs) : W p l e room_1 s m #[Value.ref b] below meth c H locs 64 1649 (lw_Z below #[Value.ref b] s) (F0 m 689 ls []) := by
  refine lv_aload_n X.1 X.2.1 dl_689 rfl (lv_at hl 1 rfl) ?_
  refine lv_aload_n X.1 X.2.1 dl_690 rfl (lv_at hl 0 rfl) ?_
  refine lv_iload_n X.1 X.2.1 dl_691 rfl (lv_at hl 3 rfl) ?_
  refine lv_iconst (v := 1) X.1 X.2.1 dl_692 (by decide) ?_
  refine lv_iadd X.1 X.2.1 dl_693 ?_
  refine va_sld X.1 X.2.1 hX hbl hbA hS hin.1 dl_694 ?_
  refine lc_callI X [.int (xs (x3 + 1).toNatClampNeg)] (y := 87) (k0 := 0) (ci := 4) (r := (nm_R4, nm_T4, 9)) (q := mq_F_forget) rfl rfl rfl ok_F_forget (cx_mem 649 (by decide +kernel) (by decide +kernel)) (cx_mem 650 (by decide +kernel) (by decide +kernel)) (cx_mem 651 (by decide +kernel) (by decide +kernel)) dl_695 rfl rfl hP hS hl.1 (Nat.le_of_ble_eq_true rfl) (p_F_forget (d := 9) (Rf := fun r τ => r = (zO_forget S (xs (x3 + 1).toNatClampNeg)).1 ∧ zIF τ (zO_forget S (xs (x3 + 1).toNatClampNeg)).2 ∧ zKF σ τ) hF (fun τ h1 h2 => ⟨rfl, h1, h2⟩)) (fun r1 σ1 H locs hR1 hP hS => ?_)
  obtain ⟨e1, hF1, hK1⟩ := hR1
  have hM1 := hM.fr hK1
  refine lv_aload_n X.1 X.2.1 dl_698 rfl (lv_at hl 2 rfl) ?_
  refine lv_aload_n X.1 X.2.1 dl_699 rfl (lv_at hl 0 rfl) ?_
  refine lv_iload_n X.1 X.2.1 dl_700 rfl (lv_at hl 3 rfl) ?_
  refine lv_iconst (v := 1) X.1 X.2.1 dl_701 (by decide) ?_
  refine lv_iadd X.1 X.2.1 dl_702 ?_
  refine va_sld X.1 X.2.1 hX hbl hbA hS hin.1 dl_703 ?_
  refine lc_callI X [.int (xs (x3 + 1).toNatClampNeg)] (y := 194) (k0 := 56) (ci := 5) (r := (nm_R5, nm_T5, 15)) (q := mq_M_forget) rfl rfl rfl ok_M_forget (cx_mem 1122 (by decide +kernel) (by decide +kernel)) (cx_mem 1123 (by decide +kernel) (by decide +kernel)) (cx_mem 1124 (by decide +kernel) (by decide +kernel)) dl_704 rfl rfl hP hS hl.1 (Nat.le_of_ble_eq_true rfl) (p_M_forget (d := 9) (Rf := fun r τ => r = (zO_forget S (xs (x3 + 1).toNatClampNeg)).1 ∧ zIM τ (zO_forget S (xs (x3 + 1).toNatClampNeg)).2 ∧ zKM σ1 τ) hM1 hV (fun τ h1 h2 => ⟨rfl, h1, h2⟩)) (fun r2 σ2 H locs hR2 hP hS => ?_)
  obtain ⟨e2, hM2, hK2⟩ := hR2
  refine lv_icmp_eq (tgt := 947) X.1 X.2.1 dl_707 (by decide) (fun _ => ?_) (fun c9 => absurd (e1.trans e2.symm) c9)
  exact nx σ2 _ H locs (hF1.fr hK2) hM2 (zO_forget_V hV) hP hS
set_option maxRecDepth 100000 in
theorem lc_20 (X : cx_X g p room_1 s m #[Value.ref b] c A code 4 11 "FoxGeeseLaw" 64 1649) (hX : va_X b L xs s s.heap) (hbl : b < s.heap.size) (hbA : ¬ A b) (hl : lv_has ls 4 [(0, .ref b), (1, .ref (cx_ad g 0)), (2, .ref (cx_ad g 56)), (3, .int x3)]) (hin : lw_in x3 L) (nx : lw_N g p l e s m below meth c b A ls) (hF : zIF σ S) (hM : zIM σ S) (hV : zSV S) (hP : va_P g.2.2.2.1 cx_cl (cx_w g σ) H) (hS : va_S A s.heap H locs) : W p l e room_1 s m #[Value.ref b] below meth c H locs 64 1649 (lw_Z below #[Value.ref b] s) (F0 m 712 ls []) := by
  refine lv_aload_n X.1 X.2.1 dl_712 rfl (lv_at hl 1 rfl) ?_
  refine lc_callI X [] (y := 88) (k0 := 0) (ci := 4) (r := (nm_R4, nm_T4, 9)) (q := mq_F_is) rfl rfl rfl ok_F_is (cx_mem 653 (by decide +kernel) (by decide +kernel)) (cx_mem 654 (by decide +kernel) (by decide +kernel)) (cx_mem 655 (by decide +kernel) (by decide +kernel)) dl_713 rfl rfl hP hS hl.1 (Nat.le_of_ble_eq_true rfl) (p_F_is (d := 7) (Rf := fun r τ => r = (zO_is S).1 ∧ zIF τ (zO_is S).2 ∧ zKF σ τ) hF hV (fun τ h1 h2 => ⟨rfl, h1, h2⟩)) (fun r1 σ1 H locs hR1 hP hS => ?_)
  obtain ⟨e1, hF1, hK1⟩ := hR1
  have hM1 := hM.fr hK1
  refine lv_aload_n X.1 X.2.1 dl_716 rfl (lv_at hl 2 rfl) ?_
  refine lc_callI X [] (y := 195) (k0 := 56) (ci := 5) (r := (nm_R5, nm_T5, 15)) (q := mq_M_is) rfl rfl rfl ok_M_is (cx_mem 1126 (by decide +kernel) (by decide +kernel)) (cx_mem 1127 (by decide +kernel) (by decide +kernel)) (cx_mem 1128 (by decide +kernel) (by decide +kernel)) dl_717 rfl rfl hP hS hl.1 (Nat.le_of_ble_eq_true rfl) (p_M_is2 (d := 6) (Rf := fun r τ => r = (zO_is S).1 ∧ zIM τ (zO_is S).2 ∧ zKM σ1 τ) hM1 hV (fun τ h1 h2 => ⟨rfl, h1, h2⟩)) (fun r2 σ2 H locs hR2 hP hS => ?_)
  obtain ⟨e2, hM2, hK2⟩ := hR2
  refine lv_icmp_eq (tgt := 947) X.1 X.2.1 dl_720 (by decide) (fun _ => ?_) (fun c9 => absurd (e1.trans e2.symm) c9)
  exact nx σ2 _ H locs (hF1.fr hK2) hM2 (show zSV (zO_is S).2 from hV) hP hS
set_option maxRecDepth 100000 in
theorem lc_21 (X : cx_X g p room_1 s m #[Value.ref b] c A code 4 11 "FoxGeeseLaw" 64 1649) (hX : va_X b L xs s s.heap) (hbl : b < s.heap.size) (hbA : ¬ A b) (hl : lv_has ls 4 [(0, .ref b), (1, .ref (cx_ad g 0)), (2, .ref (cx_ad g 56)), (3, .int x3)]) (hin : lw_in x3 L) (nx : lw_N g p l e s m below meth c b A ls) (hF : zIF σ S) (hM : zIM σ S) (hV : zSV S) (hP : va_P g.2.2.2.1 cx_cl (cx_w g σ) H) (hS : va_S A s.heap H locs) : W p l e room_1 s m #[Value.ref b] below meth c H locs 64 1649 (lw_Z below #[Value.ref b] s) (F0 m 725 ls []) := by
  refine lv_aload_n X.1 X.2.1 dl_725 rfl (lv_at hl 1 rfl) ?_
  refine lc_callI X [] (y := 89) (k0 := 0) (ci := 4) (r := (nm_R4, nm_T4, 9)) (q := mq_F_look) rfl rfl rfl ok_F_look (cx_mem 669 (by decide +kernel) (by decide +kernel)) (cx_mem 670 (by decide +kernel) (by decide +kernel)) (cx_mem 671 (by decide +kernel) (by decide +kernel)) dl_726 rfl rfl hP hS hl.1 (Nat.le_of_ble_eq_true rfl) (p_F_look (d := 7) (Rf := fun r τ => r = (zO_look S).1 ∧ zIF τ (zO_look S).2 ∧ zKF σ τ) hF hV (fun τ h1 h2 => ⟨rfl, h1, h2⟩)) (fun r1 σ1 H locs hR1 hP hS => ?_)
  obtain ⟨e1, hF1, hK1⟩ := hR1
  have hM1 := hM.fr hK1
  refine lv_aload_n X.1 X.2.1 dl_729 rfl (lv_at hl 2 rfl) ?_
  refine lc_callI X [] (y := 196) (k0 := 56) (ci := 5) (r := (nm_R5, nm_T5, 15)) (q := mq_M_look) rfl rfl rfl ok_M_look (cx_mem 1130 (by decide +kernel) (by decide +kernel)) (cx_mem 1131 (by decide +kernel) (by decide +kernel)) (cx_mem 1132 (by decide +kernel) (by decide +kernel)) dl_730 rfl rfl hP hS hl.1 (Nat.le_of_ble_eq_true rfl) (p_M_look2 (d := 5) (Rf := fun r τ => r = (zO_look S).1 ∧ zIM τ (zO_look S).2 ∧ zKM σ1 τ) hM1 hV (fun τ h1 h2 => ⟨rfl, h1, h2⟩)) (fun r2 σ2 H locs hR2 hP hS => ?_)
  obtain ⟨e2, hM2, hK2⟩ := hR2
  refine lv_icmp_eq (tgt := 947) X.1 X.2.1 dl_733 (by decide) (fun _ => ?_) (fun c9 => absurd (e1.trans e2.symm) c9)
  exact nx σ2 _ H locs (hF1.fr hK2) hM2 (show zSV (zO_look S).2 from hV) hP hS
set_option maxRecDepth 100000 in
theorem lc_22 (X : cx_X g p room_1 s m #[Value.ref b] c A code 4 11 "FoxGeeseLaw" 64 1649) (hX : va_X b L xs s s.heap) (hbl : b < s.heap.size) (hbA : ¬ A b) (hl : lv_has ls 4 [(0, .ref b), (1, .ref (cx_ad g 0)), (2, .ref (cx_ad g 56)), (3, .int x3)]) (hin : lw_in x3 L) (nx : lw_N g p l e s m below meth c b A ls) (hF : zIF σ S) (hM : zIM σ S) (hV : zSV S) (hP : va_P g.2.2.2.1 cx_cl (cx_w g σ) H) (hS : va_S A s.heap H locs) : W p l e room_1 s m #[Value.ref b] below meth c H locs 64 1649 (lw_Z below #[Value.ref b] s) (F0 m 738 ls []) := by
  refine lv_aload_n X.1 X.2.1 dl_738 rfl (lv_at hl 1 rfl) ?_
  refine lv_aload_n X.1 X.2.1 dl_739 rfl (lv_at hl 0 rfl) ?_
  refine lv_iload_n X.1 X.2.1 dl_740 rfl (lv_at hl 3 rfl) ?_
  refine lv_iconst (v := 1) X.1 X.2.1 dl_741 (by decide) ?_
  refine lv_iadd X.1 X.2.1 dl_742 ?_
  refine va_sld X.1 X.2.1 hX hbl hbA hS hin.1 dl_743 ?_
  refine lc_callI X [.int (xs (x3 + 1).toNatClampNeg)] (y := 90) (k0 := 0) (ci := 4) (r := (nm_R4, nm_T4, 9)) (q := mq_F_kinds) rfl rfl rfl ok_F_kinds (cx_mem 681 (by decide +kernel) (by decide +kernel)) (cx_mem 682 (by decide +kernel) (by decide +kernel)) (cx_mem 683 (by decide +kernel) (by decide +kernel)) dl_744 rfl rfl hP hS hl.1 (Nat.le_of_ble_eq_true rfl) (p_F_kinds (d := 7) (Rf := fun r τ => r = (zO_kinds S (xs (x3 + 1).toNatClampNeg)).1 ∧ zIF τ (zO_kinds S (xs (x3 + 1).toNatClampNeg)).2 ∧ zKF σ τ) hF hV (fun τ h1 h2 => ⟨rfl, h1, h2⟩)) (fun r1 σ1 H locs hR1 hP hS => ?_)
  obtain ⟨e1, hF1, hK1⟩ := hR1
  have hM1 := hM.fr hK1
  refine lv_aload_n X.1 X.2.1 dl_747 rfl (lv_at hl 2 rfl) ?_
  refine lv_aload_n X.1 X.2.1 dl_748 rfl (lv_at hl 0 rfl) ?_
  refine lv_iload_n X.1 X.2.1 dl_749 rfl (lv_at hl 3 rfl) ?_
  refine lv_iconst (v := 1) X.1 X.2.1 dl_750 (by decide) ?_
  refine lv_iadd X.1 X.2.1 dl_751 ?_
  refine va_sld X.1 X.2.1 hX hbl hbA hS hin.1 dl_752 ?_
  refine lc_callI X [.int (xs (x3 + 1).toNatClampNeg)] (y := 198) (k0 := 56) (ci := 5) (r := (nm_R5, nm_T5, 15)) (q := mq_M_kinds) rfl rfl rfl ok_M_kinds (cx_mem 1135 (by decide +kernel) (by decide +kernel)) (cx_mem 1136 (by decide +kernel) (by decide +kernel)) (cx_mem 1137 (by decide +kernel) (by decide +kernel)) dl_753 rfl rfl hP hS hl.1 (Nat.le_of_ble_eq_true rfl) (p_M_kinds (d := 5) (Rf := fun r τ => r = (zO_kinds S (xs (x3 + 1).toNatClampNeg)).1 ∧ zIM τ (zO_kinds S (xs (x3 + 1).toNatClampNeg)).2 ∧ zKM σ1 τ) hM1 hV (fun τ h1 h2 => ⟨rfl, h1, h2⟩)) (fun r2 σ2 H locs hR2 hP hS => ?_)
  obtain ⟨e2, hM2, hK2⟩ := hR2
  refine lv_icmp_eq (tgt := 947) X.1 X.2.1 dl_756 (by decide) (fun _ => ?_) (fun c9 => absurd (e1.trans e2.symm) c9)
  exact nx σ2 _ H locs (hF1.fr hK2) hM2 (zO_kinds_V hV) hP hS
set_option maxRecDepth 100000 in
theorem lc_23 (X : cx_X g p room_1 s m #[Value.ref b] c A code 4 11 "FoxGeeseLaw" 64 1649) (hX : va_X b L xs s s.heap) (hbl : b < s.heap.size) (hbA : ¬ A b) (hl : lv_has ls 4 [(0, .ref b), (1, .ref (cx_ad g 0)), (2, .ref (cx_ad g 56)), (3, .int x3)]) (hin : lw_in x3 L) (nx : lw_N g p l e s m below meth c b A ls) (hF : zIF σ S) (hM : zIM σ S) (hV : zSV S) (hP : va_P g.2.2.2.1 cx_cl (cx_w g σ) H) (hS : va_S A s.heap H locs) : W p l e room_1 s m #[Value.ref b] below meth c H locs 64 1649 (lw_Z below #[Value.ref b] s) (F0 m 761 ls []) := by
  refine lv_aload_n X.1 X.2.1 dl_761 rfl (lv_at hl 1 rfl) ?_
  refine lv_aload_n X.1 X.2.1 dl_762 rfl (lv_at hl 0 rfl) ?_
  refine lv_iload_n X.1 X.2.1 dl_763 rfl (lv_at hl 3 rfl) ?_
  refine lv_iconst (v := 1) X.1 X.2.1 dl_764 (by decide) ?_
  refine lv_iadd X.1 X.2.1 dl_765 ?_
  refine va_sld X.1 X.2.1 hX hbl hbA hS hin.1 dl_766 ?_
  refine lc_callI X [.int (xs (x3 + 1).toNatClampNeg)] (y := 91) (k0 := 0) (ci := 4) (r := (nm_R4, nm_T4, 9)) (q := mq_F_ask) rfl rfl rfl ok_F_ask (cx_mem 689 (by decide +kernel) (by decide +kernel)) (cx_mem 690 (by decide +kernel) (by decide +kernel)) (cx_mem 691 (by decide +kernel) (by decide +kernel)) dl_767 rfl rfl hP hS hl.1 (Nat.le_of_ble_eq_true rfl) (p_F_ask (d := 7) (Rf := fun r τ => r = (zO_ask S (xs (x3 + 1).toNatClampNeg)).1 ∧ zIF τ (zO_ask S (xs (x3 + 1).toNatClampNeg)).2 ∧ zKF σ τ) hF hV (fun τ h1 h2 => ⟨rfl, h1, h2⟩)) (fun r1 σ1 H locs hR1 hP hS => ?_)
  obtain ⟨e1, hF1, hK1⟩ := hR1
  have hM1 := hM.fr hK1
  refine lv_aload_n X.1 X.2.1 dl_770 rfl (lv_at hl 2 rfl) ?_
  refine lv_aload_n X.1 X.2.1 dl_771 rfl (lv_at hl 0 rfl) ?_
  refine lv_iload_n X.1 X.2.1 dl_772 rfl (lv_at hl 3 rfl) ?_
  refine lv_iconst (v := 1) X.1 X.2.1 dl_773 (by decide) ?_
  refine lv_iadd X.1 X.2.1 dl_774 ?_
  refine va_sld X.1 X.2.1 hX hbl hbA hS hin.1 dl_775 ?_
  refine lc_callI X [.int (xs (x3 + 1).toNatClampNeg)] (y := 199) (k0 := 56) (ci := 5) (r := (nm_R5, nm_T5, 15)) (q := mq_M_ask) rfl rfl rfl ok_M_ask (cx_mem 1143 (by decide +kernel) (by decide +kernel)) (cx_mem 1144 (by decide +kernel) (by decide +kernel)) (cx_mem 1145 (by decide +kernel) (by decide +kernel)) dl_776 rfl rfl hP hS hl.1 (Nat.le_of_ble_eq_true rfl) (p_M_ask2 (d := 5) (Rf := fun r τ => r = (zO_ask S (xs (x3 + 1).toNatClampNeg)).1 ∧ zIM τ (zO_ask S (xs (x3 + 1).toNatClampNeg)).2 ∧ zKM σ1 τ) hM1 hV (fun τ h1 h2 => ⟨rfl, h1, h2⟩)) (fun r2 σ2 H locs hR2 hP hS => ?_)
  obtain ⟨e2, hM2, hK2⟩ := hR2
  refine lv_icmp_eq (tgt := 947) X.1 X.2.1 dl_779 (by decide) (fun _ => ?_) (fun c9 => absurd (e1.trans e2.symm) c9)
  exact nx σ2 _ H locs (hF1.fr hK2) hM2 (zO_ask_V hV) hP hS
set_option maxRecDepth 100000 in
theorem lc_24 (X : cx_X g p room_1 s m #[Value.ref b] c A code 4 11 "FoxGeeseLaw" 64 1649) (hX : va_X b L xs s s.heap) (hbl : b < s.heap.size) (hbA : ¬ A b) (hl : lv_has ls 4 [(0, .ref b), (1, .ref (cx_ad g 0)), (2, .ref (cx_ad g 56)), (3, .int x3)]) (hin : lw_in x3 L) (nx : lw_N g p l e s m below meth c b A ls) (hF : zIF σ S) (hM : zIM σ S) (hV : zSV S) (hP : va_P g.2.2.2.1 cx_cl (cx_w g σ) H) (hS : va_S A s.heap H locs) : W p l e room_1 s m #[Value.ref b] below meth c H locs 64 1649 (lw_Z below #[Value.ref b] s) (F0 m 784 ls []) := by
  refine lv_aload_n X.1 X.2.1 dl_784 rfl (lv_at hl 1 rfl) ?_
  refine lv_aload_n X.1 X.2.1 dl_785 rfl (lv_at hl 0 rfl) ?_
  refine lv_iload_n X.1 X.2.1 dl_786 rfl (lv_at hl 3 rfl) ?_
  refine lv_iconst (v := 1) X.1 X.2.1 dl_787 (by decide) ?_
  refine lv_iadd X.1 X.2.1 dl_788 ?_
  refine va_sld X.1 X.2.1 hX hbl hbA hS hin.1 dl_789 ?_
  refine lv_aload_n X.1 X.2.1 dl_790 rfl (lv_at hl 0 rfl) ?_
  refine lv_iload_n X.1 X.2.1 dl_791 rfl (lv_at hl 3 rfl) ?_
  refine lv_iconst (v := 2) X.1 X.2.1 dl_792 (by decide) ?_
  refine lv_iadd X.1 X.2.1 dl_793 ?_
  refine va_sld X.1 X.2.1 hX hbl hbA hS hin.2.1 dl_794 ?_
  refine lc_callI X [.int (xs (x3 + 1).toNatClampNeg), .int (xs (x3 + 2).toNatClampNeg)] (y := 92) (k0 := 0) (ci := 4) (r := (nm_R4, nm_T4, 9)) (q := mq_F_evenings) rfl rfl rfl ok_F_evenings (cx_mem 693 (by decide +kernel) (by decide +kernel)) (cx_mem 694 (by decide +kernel) (by decide +kernel)) (cx_mem 695 (by decide +kernel) (by decide +kernel)) dl_795 rfl rfl hP hS hl.1 (Nat.le_of_ble_eq_true rfl) (p_F_evenings (d := 5) (Rf := fun r τ => r = (zO_evenings S (xs (x3 + 1).toNatClampNeg) (xs (x3 + 2).toNatClampNeg)).1 ∧ zIF τ (zO_evenings S (xs (x3 + 1).toNatClampNeg) (xs (x3 + 2).toNatClampNeg)).2 ∧ zKF σ τ) hF hV (fun τ h1 h2 => ⟨rfl, h1, h2⟩)) (fun r1 σ1 H locs hR1 hP hS => ?_)
  obtain ⟨e1, hF1, hK1⟩ := hR1
  have hM1 := hM.fr hK1
  refine lv_aload_n X.1 X.2.1 dl_798 rfl (lv_at hl 2 rfl) ?_
  refine lv_aload_n X.1 X.2.1 dl_799 rfl (lv_at hl 0 rfl) ?_
  refine lv_iload_n X.1 X.2.1 dl_800 rfl (lv_at hl 3 rfl) ?_
  refine lv_iconst (v := 1) X.1 X.2.1 dl_801 (by decide) ?_
  refine lv_iadd X.1 X.2.1 dl_802 ?_
  refine va_sld X.1 X.2.1 hX hbl hbA hS hin.1 dl_803 ?_
  refine lv_aload_n X.1 X.2.1 dl_804 rfl (lv_at hl 0 rfl) ?_
  refine lv_iload_n X.1 X.2.1 dl_805 rfl (lv_at hl 3 rfl) ?_
  refine lv_iconst (v := 2) X.1 X.2.1 dl_806 (by decide) ?_
  refine lv_iadd X.1 X.2.1 dl_807 ?_
  refine va_sld X.1 X.2.1 hX hbl hbA hS hin.2.1 dl_808 ?_
  refine lc_callI X [.int (xs (x3 + 1).toNatClampNeg), .int (xs (x3 + 2).toNatClampNeg)] (y := 200) (k0 := 56) (ci := 5) (r := (nm_R5, nm_T5, 15)) (q := mq_M_evenings) rfl rfl rfl ok_M_evenings (cx_mem 1147 (by decide +kernel) (by decide +kernel)) (cx_mem 1148 (by decide +kernel) (by decide +kernel)) (cx_mem 1149 (by decide +kernel) (by decide +kernel)) dl_809 rfl rfl hP hS hl.1 (Nat.le_of_ble_eq_true rfl) (p_M_evenings (d := 3) (Rf := fun r τ => r = (zO_evenings S (xs (x3 + 1).toNatClampNeg) (xs (x3 + 2).toNatClampNeg)).1 ∧ zIM τ (zO_evenings S (xs (x3 + 1).toNatClampNeg) (xs (x3 + 2).toNatClampNeg)).2 ∧ zKM σ1 τ) hM1 hV (fun τ h1 h2 => ⟨rfl, h1, h2⟩)) (fun r2 σ2 H locs hR2 hP hS => ?_)
  obtain ⟨e2, hM2, hK2⟩ := hR2
  refine lv_icmp_eq (tgt := 947) X.1 X.2.1 dl_812 (by decide) (fun _ => ?_) (fun c9 => absurd (e1.trans e2.symm) c9)
  exact nx σ2 _ H locs (hF1.fr hK2) hM2 (zO_evenings_V hV) hP hS
set_option maxRecDepth 100000 in
theorem lc_25 (X : cx_X g p room_1 s m #[Value.ref b] c A code 4 11 "FoxGeeseLaw" 64 1649) (hX : va_X b L xs s s.heap) (hbl : b < s.heap.size) (hbA : ¬ A b) (hl : lv_has ls 4 [(0, .ref b), (1, .ref (cx_ad g 0)), (2, .ref (cx_ad g 56)), (3, .int x3)]) (hin : lw_in x3 L) (nx : lw_N g p l e s m below meth c b A ls) (hF : zIF σ S) (hM : zIM σ S) (hV : zSV S) (hP : va_P g.2.2.2.1 cx_cl (cx_w g σ) H) (hS : va_S A s.heap H locs) : W p l e room_1 s m #[Value.ref b] below meth c H locs 64 1649 (lw_Z below #[Value.ref b] s) (F0 m 817 ls []) := by
  refine lv_aload_n X.1 X.2.1 dl_817 rfl (lv_at hl 1 rfl) ?_
  refine lv_aload_n X.1 X.2.1 dl_818 rfl (lv_at hl 0 rfl) ?_
  refine lv_iload_n X.1 X.2.1 dl_819 rfl (lv_at hl 3 rfl) ?_
  refine lv_iconst (v := 1) X.1 X.2.1 dl_820 (by decide) ?_
  refine lv_iadd X.1 X.2.1 dl_821 ?_
  refine va_sld X.1 X.2.1 hX hbl hbA hS hin.1 dl_822 ?_
  refine lc_callL X [.int (xs (x3 + 1).toNatClampNeg)] (y := 93) (k0 := 0) (ci := 4) (r := (nm_R4, nm_T4, 9)) (q := mq_F_part) rfl rfl rfl ok_F_part (cx_mem 711 (by decide +kernel) (by decide +kernel)) (cx_mem 712 (by decide +kernel) (by decide +kernel)) (cx_mem 713 (by decide +kernel) (by decide +kernel)) dl_823 rfl rfl hP hS hl.1 (Nat.le_of_ble_eq_true rfl) (p_F_part (d := 9) (Rf := fun r τ => r = (zO_part S (xs (x3 + 1).toNatClampNeg)).1 ∧ zIF τ (zO_part S (xs (x3 + 1).toNatClampNeg)).2 ∧ zKF σ τ) hF (fun τ h1 h2 => ⟨rfl, h1, h2⟩)) (fun r1 σ1 H locs hR1 hP hS => ?_)
  obtain ⟨e1, hF1, hK1⟩ := hR1
  have hM1 := hM.fr hK1
  refine lv_aload_n X.1 X.2.1 dl_826 rfl (lv_at hl 2 rfl) ?_
  refine lv_aload_n X.1 X.2.1 dl_827 rfl (lv_at hl 0 rfl) ?_
  refine lv_iload_n X.1 X.2.1 dl_828 rfl (lv_at hl 3 rfl) ?_
  refine lv_iconst (v := 1) X.1 X.2.1 dl_829 (by decide) ?_
  refine lv_iadd X.1 X.2.1 dl_830 ?_
  refine va_sld X.1 X.2.1 hX hbl hbA hS hin.1 dl_831 ?_
  refine lc_callL X [.int (xs (x3 + 1).toNatClampNeg)] (y := 201) (k0 := 56) (ci := 5) (r := (nm_R5, nm_T5, 15)) (q := mq_M_part) rfl rfl rfl ok_M_part (cx_mem 1157 (by decide +kernel) (by decide +kernel)) (cx_mem 1158 (by decide +kernel) (by decide +kernel)) (cx_mem 1159 (by decide +kernel) (by decide +kernel)) dl_832 rfl rfl hP hS hl.1 (Nat.le_of_ble_eq_true rfl) (p_M_part (d := 9) (Rf := fun r τ => r = (zO_part S (xs (x3 + 1).toNatClampNeg)).1 ∧ zIM τ (zO_part S (xs (x3 + 1).toNatClampNeg)).2 ∧ zKM σ1 τ) hM1 (fun τ h1 h2 => ⟨rfl, h1, h2⟩)) (fun r2 σ2 H locs hR2 hP hS => ?_)
  obtain ⟨e2, hM2, hK2⟩ := hR2
  refine W.lcmp X.1 X.2.1 dl_835 ?_
  rw [e1, e2]
  refine lv_if_eq (tgt := 947) X.1 X.2.1 dl_836 (by decide) (fun _ => ?_) (fun c9 => absurd (lc_same _) c9)
  exact nx σ2 _ H locs (hF1.fr hK2) hM2 (zO_part_V hV) hP hS
set_option maxRecDepth 100000 in
theorem lc_26 (X : cx_X g p room_1 s m #[Value.ref b] c A code 4 11 "FoxGeeseLaw" 64 1649) (hX : va_X b L xs s s.heap) (hbl : b < s.heap.size) (hbA : ¬ A b) (hl : lv_has ls 4 [(0, .ref b), (1, .ref (cx_ad g 0)), (2, .ref (cx_ad g 56)), (3, .int x3)]) (hin : lw_in x3 L) (nx : lw_N g p l e s m below meth c b A ls) (hF : zIF σ S) (hM : zIM σ S) (hV : zSV S) (hP : va_P g.2.2.2.1 cx_cl (cx_w g σ) H) (hS : va_S A s.heap H locs) : W p l e room_1 s m #[Value.ref b] below meth c H locs 64 1649 (lw_Z below #[Value.ref b] s) (F0 m 841 ls []) := by
  refine lv_aload_n X.1 X.2.1 dl_841 rfl (lv_at hl 1 rfl) ?_
  refine lv_aload_n X.1 X.2.1 dl_842 rfl (lv_at hl 0 rfl) ?_
  refine lv_iload_n X.1 X.2.1 dl_843 rfl (lv_at hl 3 rfl) ?_
  refine lv_iconst (v := 1) X.1 X.2.1 dl_844 (by decide) ?_
  refine lv_iadd X.1 X.2.1 dl_845 ?_
  refine va_sld X.1 X.2.1 hX hbl hbA hS hin.1 dl_846 ?_
  refine lc_callI X [.int (xs (x3 + 1).toNatClampNeg)] (y := 94) (k0 := 0) (ci := 4) (r := (nm_R4, nm_T4, 9)) (q := mq_F_image) rfl rfl rfl ok_F_image (cx_mem 715 (by decide +kernel) (by decide +kernel)) (cx_mem 716 (by decide +kernel) (by decide +kernel)) (cx_mem 717 (by decide +kernel) (by decide +kernel)) dl_847 rfl rfl hP hS hl.1 (Nat.le_of_ble_eq_true rfl) (p_F_image (d := 8) (Rf := fun r τ => r = (zO_image S (xs (x3 + 1).toNatClampNeg)).1 ∧ zIF τ (zO_image S (xs (x3 + 1).toNatClampNeg)).2 ∧ zKF σ τ) hF hV (fun τ h1 h2 => ⟨rfl, h1, h2⟩)) (fun r1 σ1 H locs hR1 hP hS => ?_)
  obtain ⟨e1, hF1, hK1⟩ := hR1
  have hM1 := hM.fr hK1
  refine lv_aload_n X.1 X.2.1 dl_850 rfl (lv_at hl 2 rfl) ?_
  refine lv_aload_n X.1 X.2.1 dl_851 rfl (lv_at hl 0 rfl) ?_
  refine lv_iload_n X.1 X.2.1 dl_852 rfl (lv_at hl 3 rfl) ?_
  refine lv_iconst (v := 1) X.1 X.2.1 dl_853 (by decide) ?_
  refine lv_iadd X.1 X.2.1 dl_854 ?_
  refine va_sld X.1 X.2.1 hX hbl hbA hS hin.1 dl_855 ?_
  refine lc_callI X [.int (xs (x3 + 1).toNatClampNeg)] (y := 202) (k0 := 56) (ci := 5) (r := (nm_R5, nm_T5, 15)) (q := mq_M_image) rfl rfl rfl ok_M_image (cx_mem 1161 (by decide +kernel) (by decide +kernel)) (cx_mem 1162 (by decide +kernel) (by decide +kernel)) (cx_mem 1163 (by decide +kernel) (by decide +kernel)) dl_856 rfl rfl hP hS hl.1 (Nat.le_of_ble_eq_true rfl) (p_M_image (d := 9) (Rf := fun r τ => r = (zO_image S (xs (x3 + 1).toNatClampNeg)).1 ∧ zIM τ (zO_image S (xs (x3 + 1).toNatClampNeg)).2 ∧ zKM σ1 τ) hM1 hV (fun τ h1 h2 => ⟨rfl, h1, h2⟩)) (fun r2 σ2 H locs hR2 hP hS => ?_)
  obtain ⟨e2, hM2, hK2⟩ := hR2
  refine lv_icmp_eq (tgt := 947) X.1 X.2.1 dl_859 (by decide) (fun _ => ?_) (fun c9 => absurd (e1.trans e2.symm) c9)
  exact nx σ2 _ H locs (hF1.fr hK2) hM2 (zO_image_V hV) hP hS
set_option maxRecDepth 100000 in
theorem lc_27 (X : cx_X g p room_1 s m #[Value.ref b] c A code 4 11 "FoxGeeseLaw" 64 1649) (hX : va_X b L xs s s.heap) (hbl : b < s.heap.size) (hbA : ¬ A b) (hl : lv_has ls 4 [(0, .ref b), (1, .ref (cx_ad g 0)), (2, .ref (cx_ad g 56)), (3, .int x3)]) (hin : lw_in x3 L) (nx : lw_N g p l e s m below meth c b A ls) (hF : zIF σ S) (hM : zIM σ S) (hV : zSV S) (hP : va_P g.2.2.2.1 cx_cl (cx_w g σ) H) (hS : va_S A s.heap H locs) : W p l e room_1 s m #[Value.ref b] below meth c H locs 64 1649 (lw_Z below #[Value.ref b] s) (F0 m 864 ls []) := by
  refine lv_aload_n X.1 X.2.1 dl_864 rfl (lv_at hl 1 rfl) ?_
  refine lv_aload_n X.1 X.2.1 dl_865 rfl (lv_at hl 0 rfl) ?_
  refine lv_iload_n X.1 X.2.1 dl_866 rfl (lv_at hl 3 rfl) ?_
  refine lv_iconst (v := 1) X.1 X.2.1 dl_867 (by decide) ?_
  refine lv_iadd X.1 X.2.1 dl_868 ?_
  refine va_sld X.1 X.2.1 hX hbl hbA hS hin.1 dl_869 ?_
  refine lc_callI X [.int (xs (x3 + 1).toNatClampNeg)] (y := 95) (k0 := 0) (ci := 4) (r := (nm_R4, nm_T4, 9)) (q := mq_F_from) rfl rfl rfl ok_F_from (cx_mem 719 (by decide +kernel) (by decide +kernel)) (cx_mem 720 (by decide +kernel) (by decide +kernel)) (cx_mem 721 (by decide +kernel) (by decide +kernel)) dl_870 rfl rfl hP hS hl.1 (Nat.le_of_ble_eq_true rfl) (p_F_from (d := 8) (Rf := fun r τ => r = (zO_from S (xs (x3 + 1).toNatClampNeg)).1 ∧ zIF τ (zO_from S (xs (x3 + 1).toNatClampNeg)).2 ∧ zKF σ τ) hF hV (fun τ h1 h2 => ⟨rfl, h1, h2⟩)) (fun r1 σ1 H locs hR1 hP hS => ?_)
  obtain ⟨e1, hF1, hK1⟩ := hR1
  have hM1 := hM.fr hK1
  refine lv_aload_n X.1 X.2.1 dl_873 rfl (lv_at hl 2 rfl) ?_
  refine lv_aload_n X.1 X.2.1 dl_874 rfl (lv_at hl 0 rfl) ?_
  refine lv_iload_n X.1 X.2.1 dl_875 rfl (lv_at hl 3 rfl) ?_
  refine lv_iconst (v := 1) X.1 X.2.1 dl_876 (by decide) ?_
  refine lv_iadd X.1 X.2.1 dl_877 ?_
  refine va_sld X.1 X.2.1 hX hbl hbA hS hin.1 dl_878 ?_
  refine lc_callI X [.int (xs (x3 + 1).toNatClampNeg)] (y := 203) (k0 := 56) (ci := 5) (r := (nm_R5, nm_T5, 15)) (q := mq_M_from) rfl rfl rfl ok_M_from (cx_mem 1165 (by decide +kernel) (by decide +kernel)) (cx_mem 1166 (by decide +kernel) (by decide +kernel)) (cx_mem 1167 (by decide +kernel) (by decide +kernel)) dl_879 rfl rfl hP hS hl.1 (Nat.le_of_ble_eq_true rfl) (p_M_from (d := 9) (Rf := fun r τ => r = (zO_from S (xs (x3 + 1).toNatClampNeg)).1 ∧ zIM τ (zO_from S (xs (x3 + 1).toNatClampNeg)).2 ∧ zKM σ1 τ) hM1 hV (fun τ h1 h2 => ⟨rfl, h1, h2⟩)) (fun r2 σ2 H locs hR2 hP hS => ?_)
  obtain ⟨e2, hM2, hK2⟩ := hR2
  refine lv_icmp_eq (tgt := 947) X.1 X.2.1 dl_882 (by decide) (fun _ => ?_) (fun c9 => absurd (e1.trans e2.symm) c9)
  exact nx σ2 _ H locs (hF1.fr hK2) hM2 (zO_from_V hV) hP hS
set_option maxRecDepth 100000 in
theorem lc_28 (X : cx_X g p room_1 s m #[Value.ref b] c A code 4 11 "FoxGeeseLaw" 64 1649) (hX : va_X b L xs s s.heap) (hbl : b < s.heap.size) (hbA : ¬ A b) (hl : lv_has ls 4 [(0, .ref b), (1, .ref (cx_ad g 0)), (2, .ref (cx_ad g 56)), (3, .int x3)]) (hin : lw_in x3 L) (nx : lw_N g p l e s m below meth c b A ls) (hF : zIF σ S) (hM : zIM σ S) (hV : zSV S) (hP : va_P g.2.2.2.1 cx_cl (cx_w g σ) H) (hS : va_S A s.heap H locs) : W p l e room_1 s m #[Value.ref b] below meth c H locs 64 1649 (lw_Z below #[Value.ref b] s) (F0 m 887 ls []) := by
  refine lv_aload_n X.1 X.2.1 dl_887 rfl (lv_at hl 1 rfl) ?_
  refine lv_aload_n X.1 X.2.1 dl_888 rfl (lv_at hl 0 rfl) ?_
  refine lv_iload_n X.1 X.2.1 dl_889 rfl (lv_at hl 3 rfl) ?_
  refine lv_iconst (v := 1) X.1 X.2.1 dl_890 (by decide) ?_
  refine lv_iadd X.1 X.2.1 dl_891 ?_
  refine va_sld X.1 X.2.1 hX hbl hbA hS hin.1 dl_892 ?_
  refine lc_callI X [.int (xs (x3 + 1).toNatClampNeg)] (y := 96) (k0 := 0) (ci := 4) (r := (nm_R4, nm_T4, 9)) (q := mq_F_status) rfl rfl rfl ok_F_status (cx_mem 723 (by decide +kernel) (by decide +kernel)) (cx_mem 724 (by decide +kernel) (by decide +kernel)) (cx_mem 725 (by decide +kernel) (by decide +kernel)) dl_893 rfl rfl hP hS hl.1 (Nat.le_of_ble_eq_true rfl) (p_F_status (d := 9) (Rf := fun r τ => r = (zO_status S (xs (x3 + 1).toNatClampNeg)).1 ∧ zIF τ (zO_status S (xs (x3 + 1).toNatClampNeg)).2 ∧ zKF σ τ) hF (fun τ h1 h2 => ⟨rfl, h1, h2⟩)) (fun r1 σ1 H locs hR1 hP hS => ?_)
  obtain ⟨e1, hF1, hK1⟩ := hR1
  have hM1 := hM.fr hK1
  refine lv_aload_n X.1 X.2.1 dl_896 rfl (lv_at hl 2 rfl) ?_
  refine lv_aload_n X.1 X.2.1 dl_897 rfl (lv_at hl 0 rfl) ?_
  refine lv_iload_n X.1 X.2.1 dl_898 rfl (lv_at hl 3 rfl) ?_
  refine lv_iconst (v := 1) X.1 X.2.1 dl_899 (by decide) ?_
  refine lv_iadd X.1 X.2.1 dl_900 ?_
  refine va_sld X.1 X.2.1 hX hbl hbA hS hin.1 dl_901 ?_
  refine lc_callI X [.int (xs (x3 + 1).toNatClampNeg)] (y := 204) (k0 := 56) (ci := 5) (r := (nm_R5, nm_T5, 15)) (q := mq_M_status) rfl rfl rfl ok_M_status (cx_mem 1169 (by decide +kernel) (by decide +kernel)) (cx_mem 1170 (by decide +kernel) (by decide +kernel)) (cx_mem 1171 (by decide +kernel) (by decide +kernel)) dl_902 rfl rfl hP hS hl.1 (Nat.le_of_ble_eq_true rfl) (p_M_status (d := 9) (Rf := fun r τ => r = (zO_status S (xs (x3 + 1).toNatClampNeg)).1 ∧ zIM τ (zO_status S (xs (x3 + 1).toNatClampNeg)).2 ∧ zKM σ1 τ) hM1 (fun τ h1 h2 => ⟨rfl, h1, h2⟩)) (fun r2 σ2 H locs hR2 hP hS => ?_)
  obtain ⟨e2, hM2, hK2⟩ := hR2
  refine lv_icmp_eq (tgt := 947) X.1 X.2.1 dl_905 (by decide) (fun _ => ?_) (fun c9 => absurd (e1.trans e2.symm) c9)
  exact nx σ2 _ H locs (hF1.fr hK2) hM2 (zO_status_V hV) hP hS
set_option maxRecDepth 100000 in
theorem lc_29 (X : cx_X g p room_1 s m #[Value.ref b] c A code 4 11 "FoxGeeseLaw" 64 1649) (hX : va_X b L xs s s.heap) (hbl : b < s.heap.size) (hbA : ¬ A b) (hl : lv_has ls 4 [(0, .ref b), (1, .ref (cx_ad g 0)), (2, .ref (cx_ad g 56)), (3, .int x3)]) (hin : lw_in x3 L) (nx : lw_N g p l e s m below meth c b A ls) (hF : zIF σ S) (hM : zIM σ S) (hV : zSV S) (hP : va_P g.2.2.2.1 cx_cl (cx_w g σ) H) (hS : va_S A s.heap H locs) : W p l e room_1 s m #[Value.ref b] below meth c H locs 64 1649 (lw_Z below #[Value.ref b] s) (F0 m 910 ls []) := by
  refine lv_aload_n X.1 X.2.1 dl_910 rfl (lv_at hl 1 rfl) ?_
  refine lv_aload_n X.1 X.2.1 dl_911 rfl (lv_at hl 0 rfl) ?_
  refine lv_iload_n X.1 X.2.1 dl_912 rfl (lv_at hl 3 rfl) ?_
  refine lv_iconst (v := 1) X.1 X.2.1 dl_913 (by decide) ?_
  refine lv_iadd X.1 X.2.1 dl_914 ?_
  refine va_sld X.1 X.2.1 hX hbl hbA hS hin.1 dl_915 ?_
  refine lc_callI X [.int (xs (x3 + 1).toNatClampNeg)] (y := 97) (k0 := 0) (ci := 4) (r := (nm_R4, nm_T4, 9)) (q := mq_F_count) rfl rfl rfl ok_F_count (cx_mem 727 (by decide +kernel) (by decide +kernel)) (cx_mem 728 (by decide +kernel) (by decide +kernel)) (cx_mem 729 (by decide +kernel) (by decide +kernel)) dl_916 rfl rfl hP hS hl.1 (Nat.le_of_ble_eq_true rfl) (p_F_count (d := 5) (Rf := fun r τ => r = (zO_count S (xs (x3 + 1).toNatClampNeg)).1 ∧ zIF τ (zO_count S (xs (x3 + 1).toNatClampNeg)).2 ∧ zKF σ τ) hF hV (fun τ h1 h2 => ⟨rfl, h1, h2⟩)) (fun r1 σ1 H locs hR1 hP hS => ?_)
  obtain ⟨e1, hF1, hK1⟩ := hR1
  have hM1 := hM.fr hK1
  refine lv_aload_n X.1 X.2.1 dl_919 rfl (lv_at hl 2 rfl) ?_
  refine lv_aload_n X.1 X.2.1 dl_920 rfl (lv_at hl 0 rfl) ?_
  refine lv_iload_n X.1 X.2.1 dl_921 rfl (lv_at hl 3 rfl) ?_
  refine lv_iconst (v := 1) X.1 X.2.1 dl_922 (by decide) ?_
  refine lv_iadd X.1 X.2.1 dl_923 ?_
  refine va_sld X.1 X.2.1 hX hbl hbA hS hin.1 dl_924 ?_
  refine lc_callI X [.int (xs (x3 + 1).toNatClampNeg)] (y := 207) (k0 := 56) (ci := 5) (r := (nm_R5, nm_T5, 15)) (q := mq_M_count) rfl rfl rfl ok_M_count (cx_mem 1173 (by decide +kernel) (by decide +kernel)) (cx_mem 1174 (by decide +kernel) (by decide +kernel)) (cx_mem 1175 (by decide +kernel) (by decide +kernel)) dl_925 rfl rfl hP hS hl.1 (Nat.le_of_ble_eq_true rfl) (p_M_count (d := 2) (Rf := fun r τ => r = (zO_count S (xs (x3 + 1).toNatClampNeg)).1 ∧ zIM τ (zO_count S (xs (x3 + 1).toNatClampNeg)).2 ∧ zKM σ1 τ) hM1 hV (fun τ h1 h2 => ⟨rfl, h1, h2⟩)) (fun r2 σ2 H locs hR2 hP hS => ?_)
  obtain ⟨e2, hM2, hK2⟩ := hR2
  refine lv_icmp_eq (tgt := 947) X.1 X.2.1 dl_928 (by decide) (fun _ => ?_) (fun c9 => absurd (e1.trans e2.symm) c9)
  exact nx σ2 _ H locs (hF1.fr hK2) hM2 (zO_count_V hV) hP hS
set_option maxRecDepth 100000 in
theorem lc_30 (X : cx_X g p room_1 s m #[Value.ref b] c A code 4 11 "FoxGeeseLaw" 64 1649) (hX : va_X b L xs s s.heap) (hbl : b < s.heap.size) (hbA : ¬ A b) (hl : lv_has ls 4 [(0, .ref b), (1, .ref (cx_ad g 0)), (2, .ref (cx_ad g 56)), (3, .int x3)]) (hin : lw_in x3 L) (nx : lw_N g p l e s m below meth c b A ls) (hF : zIF σ S) (hM : zIM σ S) (hV : zSV S) (hP : va_P g.2.2.2.1 cx_cl (cx_w g σ) H) (hS : va_S A s.heap H locs) : W p l e room_1 s m #[Value.ref b] below meth c H locs 64 1649 (lw_Z below #[Value.ref b] s) (F0 m 933 ls []) := by
  refine lv_aload_n X.1 X.2.1 dl_933 rfl (lv_at hl 1 rfl) ?_
  refine lc_callL X [] (y := 98) (k0 := 0) (ci := 4) (r := (nm_R4, nm_T4, 9)) (q := mq_F_digest) rfl rfl rfl ok_F_digest (cx_mem 739 (by decide +kernel) (by decide +kernel)) (cx_mem 740 (by decide +kernel) (by decide +kernel)) (cx_mem 741 (by decide +kernel) (by decide +kernel)) dl_934 rfl rfl hP hS hl.1 (Nat.le_of_ble_eq_true rfl) (p_F_digest (d := 5) (Rf := fun r τ => r = (zO_digest S).1 ∧ zIF τ (zO_digest S).2 ∧ zKF σ τ) hF hV (fun τ h1 h2 => ⟨rfl, h1, h2⟩)) (fun r1 σ1 H locs hR1 hP hS => ?_)
  obtain ⟨e1, hF1, hK1⟩ := hR1
  have hM1 := hM.fr hK1
  refine lv_aload_n X.1 X.2.1 dl_937 rfl (lv_at hl 2 rfl) ?_
  refine lc_callL X [] (y := 210) (k0 := 56) (ci := 5) (r := (nm_R5, nm_T5, 15)) (q := mq_M_digest) rfl rfl rfl ok_M_digest (cx_mem 1186 (by decide +kernel) (by decide +kernel)) (cx_mem 1187 (by decide +kernel) (by decide +kernel)) (cx_mem 1188 (by decide +kernel) (by decide +kernel)) dl_938 rfl rfl hP hS hl.1 (Nat.le_of_ble_eq_true rfl) (p_M_digest (d := 2) (Rf := fun r τ => r = (zO_digest S).1 ∧ zIM τ (zO_digest S).2 ∧ zKM σ1 τ) hM1 hV (fun τ h1 h2 => ⟨rfl, h1, h2⟩)) (fun r2 σ2 H locs hR2 hP hS => ?_)
  obtain ⟨e2, hM2, hK2⟩ := hR2
  refine W.lcmp X.1 X.2.1 dl_941 ?_
  rw [e1, e2]
  refine lv_if_eq (tgt := 947) X.1 X.2.1 dl_942 (by decide) (fun _ => ?_) (fun c9 => absurd (lc_same _) c9)
  exact nx σ2 _ H locs (hF1.fr hK2) hM2 (show zSV (zO_digest S).2 from hV) hP hS
end LC
