/-! THE LAW: its cases, its loop. -/
/-- what stands all through the law -/
def LC (p : Program) (l : Launch) (s : State) (m : MethodId) (meth : Method) (c : Code) (b L : Nat) (xs : Nat → Int32) (G : gT) : Prop :=
  FX p m c code 8 s #[.ref b] "OysterBedsLaw" G ∧ va_X b L xs s s.heap ∧ b < s.heap.size ∧ meth.locks = false ∧ meth.sig.returnType = ret ∧ L ≤ 3072 ∧ l.stackTraces = false ∧ FW G ∧ gH G = s.heap
abbrev llv (G : gT) (b i : Nat) : List (Nat × Value) := [(0, .ref b), (1, .ref (ga G 0)), (2, .ref (ga G 300)), (3, .ref (ga G 26)), (4, .int (nI i))]
abbrev lQ (below : List Frame) (b : Nat) (s : State) : State → Prop := lw_Z below #[Value.ref b] s
/-- at a place of the law's code, with nothing on the stack -/
abbrev LAt (p : Program) (l : Launch) (e : Env) (s : State) (m : MethodId) (below : List Frame) (meth : Method) (c : Code) (b : Nat) (G : gT) (cells slots pc i : Nat) (χ σ : St) : Prop :=
  ∀ (H : Heap) (locs : List Loc) (ls : Array Slot), HQ G χ σ H locs → lv_has ls 8 (llv G b i) → W p l e room_1 s m #[.ref b] below meth c H locs cells slots (lQ below b s) (F0 m pc ls [])
theorem l_idx {i k L : Nat} (hi : i + 6 ≤ L) (hL : L ≤ 3072) (hk : k < 6) : vp_in (nI (i + k)) L ∧ (nI (i + k)).toNatClampNeg = i + k := by
  have h1 : i + k < 2 ^ 31 := by omega
  refine ⟨?_, nI_clamp h1⟩
  intro h
  rcases h with h | h
  · exact nI_pos h1 h
  · rw [nI_clamp h1] at h; omega
section LROWS
variable {p : Program} {l : Launch} {e : Env} {s : State} {m : MethodId} {below : List Frame} {meth : Method} {c : Code} {b L : Nat} {xs : Nat → Int32} {G : gT} {H : Heap} {locs : List Loc} {cells slots : Nat} {Q : State → Prop} {χ σ χ' σ' : St} {pc : Nat} {ls : Array Slot} {rest st : List Value} {lv : List (Nat × Value)}
theorem l_ld {i k : Nat} {kk : Int32} (C : LC p l s m meth c b L xs G) (hw : HQ G χ σ H locs) (hi : i + 6 ≤ L) (hk : k < 6) (hkk : kk = nI k) (hdg : decode code pc = .ok (.iaload, 1))
    (k9 : W p l e room_1 s m #[.ref b] below meth c H locs cells slots Q (F0 m (pc + 1) ls (.int (xs (i + k)) :: rest))) : W p l e room_1 s m #[.ref b] below meth c H locs cells slots Q (F0 m pc ls (.int (nI i + kk) :: .ref b :: rest)) := by
  obtain ⟨X, hX, hbl, -, -, hL, -, hf, hg⟩ := C
  obtain ⟨h1, h2⟩ := l_idx hi hL hk
  subst hkk
  rw [nI_add]
  have hS : va_S (gA G) s.heap H locs := by rw [← hg]; exact hw.s
  refine va_sld X.1 X.2.1 hX hbl (fun h => ?_) hS h1 hdg ?_
  · have := (hf.2 b).mp h; rw [hg] at this; omega
  · rw [h2]; exact k9
theorem l_ld0 {i : Nat} (C : LC p l s m meth c b L xs G) (hw : HQ G χ σ H locs) (hi : i + 6 ≤ L) (hdg : decode code pc = .ok (.iaload, 1))
    (k9 : W p l e room_1 s m #[.ref b] below meth c H locs cells slots Q (F0 m (pc + 1) ls (.int (xs i) :: rest))) : W p l e room_1 s m #[.ref b] below meth c H locs cells slots Q (F0 m pc ls (.int (nI i) :: .ref b :: rest)) := by
  obtain ⟨X, hX, hbl, -, -, hL, -, hf, hg⟩ := C
  obtain ⟨h1, h2⟩ := l_idx (k := 0) hi hL (by omega)
  have hS : va_S (gA G) s.heap H locs := by rw [← hg]; exact hw.s
  refine va_sld X.1 X.2.1 hX hbl (fun h => ?_) hS h1 hdg ?_
  · have := (hf.2 b).mp h; rw [hg] at this; omega
  · rw [show (nI i).toNatClampNeg = i from h2]; exact k9
theorem l_len (C : LC p l s m meth c b L xs G) (hw : HQ G χ σ H locs) (hdg : decode code pc = .ok (.arraylength, 1))
    (k9 : W p l e room_1 s m #[.ref b] below meth c H locs cells slots Q (F0 m (pc + 1) ls (.int (nI L) :: rest))) : W p l e room_1 s m #[.ref b] below meth c H locs cells slots Q (F0 m pc ls (.ref b :: rest)) := by
  obtain ⟨X, hX, hbl, -, -, hL, -, hf, hg⟩ := C
  have hS : va_S (gA G) s.heap H locs := by rw [← hg]; exact hw.s
  refine va_slen X.1 X.2.1 hX hbl (fun h => ?_) hS hdg k9
  have := (hf.2 b).mp h; rw [hg] at this; omega
/-- a static call of a method with a table, that makes an object at most -/
theorem l_callW {y : MethodName} {bytes : ByteArray} {maxL n idx fr lo : Nat} {ret : Option FieldType} {hh : List (Nat × Nat × Nat × Nat)} {As : List Value} {rv : Option Value} {R : Room} {args : Array Value} {cc : ByteArray} {nL : Nat} {own : String} (X : FX p m c cc nL s args own G) (h : HQ G χ σ H locs) (hl : lv_has ls nL lv) (hc : Cond.codeWith y bytes maxL ret hh ∈ WG) (hi : Cond.static y ∈ WG) (hini : Cond.initialized y.cls ∈ WG) (hlk : Cond.methodLink own idx y ∈ WG)
    (hd : y.cls ≠ "java/lang/invoke/MethodHandle" ∧ y.cls ≠ "java/lang/invoke/VarHandle" ∧ (parseMethodDescriptor y.desc).map (fun d => d.parameters.length) = some n)
    (hC : Cw l G y bytes maxL ret hh fr lo As χ σ rv χ' σ') (hn : As.length = n) (hR : fr + 1 ≤ R.frames ∧ 8 + (maxL + 11) + lo ≤ R.locals) (hf : cells + 1 ≤ R.cells ∧ slots + 6 ≤ R.slots)
    (hst : st = As.reverse ++ rest) {st' : List Value} (hst' : rv.toList ++ rest = st') (hW : (rest.map fun v => v.category).sum ≤ 8) (hdg : decode cc pc = .ok (.invokestatic idx, 3))
    (k : ∀ (H1 : Heap) (locs1 : List Loc), HQ G χ' σ' H1 locs1 → W p l e R s m args below meth c H1 locs1 (cells + 1) (slots + 6) Q (F0 m (pc + 3) ls st')) : W p l e R s m args below meth c H locs cells slots Q (F0 m pc ls st) := by
  subst hst'
  have hpay : ∀ w ∈ Cond.codeWith y bytes maxL ret hh :: WG, ∀ (a' : Array Value) (U : State), s.WarmedH U.vm → w.before a' U = true := by
    intro w hw a' U hW
    have hw2 : w ∈ WG := (List.mem_cons.mp hw).elim (fun e => by rw [e]; exact hc) id
    exact word_at hW (good_of_word (wg_good hw2)) (X.2.2.2.2.1 w hw2)
  have hr := vx_runSW (p := p) (l := l) (e := e) (below := below) (meth := meth) (locs := locs) (cells := cells) (slots := slots) (g := F0 m pc ls st) (As := As) (rest := rest) ⟨X.1, X.2.1, X.2.2.1, X.2.2.2.1, X.2.2.2.2.1⟩ hC (R := R) (n := n) (index := idx) (H := H)
    ⟨⟨rfl, rfl, hR.1, hR.2, hpay, List.mem_cons_self⟩, X.2.2.2.2.1 _ hc, X.2.2.2.2.1 _ hini, ⟨hd.1, hd.2.1⟩, fun sig h => by have h2 := hd.2.2; rw [h] at h2; exact (Option.some.inj h2).symm, X.2.2.2.2.1 _ hlk, X.2.2.2.2.1 _ hi⟩
    ⟨pc_blind (fun U V hv hh q => kh_blind hv hh q), fun U hU hWm => ⟨rfl, X.2.2.2.2.2.warm hWm, by rw [hU]; exact h.1⟩⟩ rfl hn hl.1 hst (lv_room hW) hdg hf
  intro T hT X'
  obtain ⟨v, st₀, t, T', L, h0, X'', hL, e1, e2, ⟨hv, hH⟩, hg⟩ := hr T hT X'
  cases hv
  obtain ⟨t2, a1, b1⟩ := k T'.heap (locs ++ L) ⟨by rw [e1]; exact hH, fun q hq => (List.mem_append.mp hq).elim (h.2 q) (hL q)⟩ T' rfl X''
  exact ⟨t2, hg t2 a1, b1⟩
end LROWS

theorem dl_0 : decode code 0 = .ok (.new 8, 3) := by decide +kernel
theorem dl_3 : decode code 3 = .ok (.dup, 1) := by decide +kernel
theorem dl_4 : decode code 4 = .ok (.invokespecial 19, 3) := by decide +kernel
theorem dl_7 : decode code 7 = .ok (.astore_n 1, 1) := by decide +kernel
theorem dl_8 : decode code 8 = .ok (.new 20, 3) := by decide +kernel
theorem dl_11 : decode code 11 = .ok (.dup, 1) := by decide +kernel
theorem dl_12 : decode code 12 = .ok (.invokespecial 22, 3) := by decide +kernel
theorem dl_15 : decode code 15 = .ok (.astore_n 2, 1) := by decide +kernel
theorem dl_16 : decode code 16 = .ok (.iconst 1, 1) := by decide +kernel
theorem dl_17 : decode code 17 = .ok (.newarray .long, 2) := by decide +kernel
theorem dl_19 : decode code 19 = .ok (.astore_n 3, 1) := by decide +kernel
theorem dl_20 : decode code 20 = .ok (.iconst 0, 1) := by decide +kernel
theorem dl_21 : decode code 21 = .ok (.istore 4, 2) := by decide +kernel
theorem dl_23 : decode code 23 = .ok (.iload 4, 2) := by decide +kernel
theorem dl_25 : decode code 25 = .ok (.aload_n 0, 1) := by decide +kernel
theorem dl_26 : decode code 26 = .ok (.arraylength, 1) := by decide +kernel
theorem dl_27 : decode code 27 = .ok (.bipush 6, 2) := by decide +kernel
theorem dl_29 : decode code 29 = .ok (.isub, 1) := by decide +kernel
theorem dl_30 : decode code 30 = .ok (.if_icmp .gt 1637, 3) := by decide +kernel
theorem dl_33 : decode code 33 = .ok (.aload_n 0, 1) := by decide +kernel
theorem dl_34 : decode code 34 = .ok (.iload 4, 2) := by decide +kernel
theorem dl_36 : decode code 36 = .ok (.iaload, 1) := by decide +kernel
theorem dl_37 : decode code 37 = .ok (.bipush 63, 2) := by decide +kernel
theorem dl_39 : decode code 39 = .ok (.iand, 1) := by decide +kernel
theorem dl_40 : decode code 40 = .ok (.tableswitch 1621 0 51 #[224, 249, 274, 287, 300, 368, 429, 466, 491, 528, 565, 590, 603, 616, 653, 690, 703, 740, 753, 802, 827, 840, 865, 878, 903, 916, 929, 942, 955, 968, 981, 1006, 1031, 1044, 1057, 1106, 1119, 1144, 1169, 1206, 1219, 1232, 1245, 1306, 1379, 1416, 1429, 1454, 1491, 1516, 1541, 1566], 224) := by decide +kernel
theorem dl_264 : decode code 264 = .ok (.aload_n 1, 1) := by decide +kernel
theorem dl_265 : decode code 265 = .ok (.aload_n 0, 1) := by decide +kernel
theorem dl_266 : decode code 266 = .ok (.iload 4, 2) := by decide +kernel
theorem dl_268 : decode code 268 = .ok (.iconst 1, 1) := by decide +kernel
theorem dl_269 : decode code 269 = .ok (.iadd, 1) := by decide +kernel
theorem dl_270 : decode code 270 = .ok (.iaload, 1) := by decide +kernel
theorem dl_271 : decode code 271 = .ok (.invokevirtual 23, 3) := by decide +kernel
theorem dl_274 : decode code 274 = .ok (.aload_n 2, 1) := by decide +kernel
theorem dl_275 : decode code 275 = .ok (.aload_n 0, 1) := by decide +kernel
theorem dl_276 : decode code 276 = .ok (.iload 4, 2) := by decide +kernel
theorem dl_278 : decode code 278 = .ok (.iconst 1, 1) := by decide +kernel
theorem dl_279 : decode code 279 = .ok (.iadd, 1) := by decide +kernel
theorem dl_280 : decode code 280 = .ok (.iaload, 1) := by decide +kernel
theorem dl_281 : decode code 281 = .ok (.invokevirtual 27, 3) := by decide +kernel
theorem dl_284 : decode code 284 = .ok (.if_icmp .eq 1377, 3) := by decide +kernel
theorem dl_287 : decode code 287 = .ok (.iconst 0, 1) := by decide +kernel
theorem dl_288 : decode code 288 = .ok (.ireturn, 1) := by decide +kernel
theorem dl_289 : decode code 289 = .ok (.aload_n 1, 1) := by decide +kernel
theorem dl_290 : decode code 290 = .ok (.aload_n 0, 1) := by decide +kernel
theorem dl_291 : decode code 291 = .ok (.iload 4, 2) := by decide +kernel
theorem dl_293 : decode code 293 = .ok (.iconst 1, 1) := by decide +kernel
theorem dl_294 : decode code 294 = .ok (.iadd, 1) := by decide +kernel
theorem dl_295 : decode code 295 = .ok (.iaload, 1) := by decide +kernel
theorem dl_296 : decode code 296 = .ok (.invokevirtual 28, 3) := by decide +kernel
theorem dl_299 : decode code 299 = .ok (.aload_n 2, 1) := by decide +kernel
theorem dl_300 : decode code 300 = .ok (.aload_n 0, 1) := by decide +kernel
theorem dl_301 : decode code 301 = .ok (.iload 4, 2) := by decide +kernel
theorem dl_303 : decode code 303 = .ok (.iconst 1, 1) := by decide +kernel
theorem dl_304 : decode code 304 = .ok (.iadd, 1) := by decide +kernel
theorem dl_305 : decode code 305 = .ok (.iaload, 1) := by decide +kernel
theorem dl_306 : decode code 306 = .ok (.invokevirtual 32, 3) := by decide +kernel
theorem dl_309 : decode code 309 = .ok (.if_icmp .eq 1352, 3) := by decide +kernel
theorem dl_312 : decode code 312 = .ok (.iconst 0, 1) := by decide +kernel
theorem dl_313 : decode code 313 = .ok (.ireturn, 1) := by decide +kernel
theorem dl_314 : decode code 314 = .ok (.aload_n 1, 1) := by decide +kernel
theorem dl_315 : decode code 315 = .ok (.invokevirtual 33, 3) := by decide +kernel
theorem dl_318 : decode code 318 = .ok (.aload_n 2, 1) := by decide +kernel
theorem dl_319 : decode code 319 = .ok (.invokevirtual 37, 3) := by decide +kernel
theorem dl_322 : decode code 322 = .ok (.if_icmp .eq 1339, 3) := by decide +kernel
theorem dl_325 : decode code 325 = .ok (.iconst 0, 1) := by decide +kernel
theorem dl_326 : decode code 326 = .ok (.ireturn, 1) := by decide +kernel
theorem dl_327 : decode code 327 = .ok (.aload_n 1, 1) := by decide +kernel
theorem dl_328 : decode code 328 = .ok (.invokevirtual 38, 3) := by decide +kernel
theorem dl_331 : decode code 331 = .ok (.aload_n 2, 1) := by decide +kernel
theorem dl_332 : decode code 332 = .ok (.invokevirtual 41, 3) := by decide +kernel
theorem dl_335 : decode code 335 = .ok (.if_icmp .eq 1326, 3) := by decide +kernel
theorem dl_338 : decode code 338 = .ok (.iconst 0, 1) := by decide +kernel
theorem dl_339 : decode code 339 = .ok (.ireturn, 1) := by decide +kernel
theorem dl_340 : decode code 340 = .ok (.aload_n 1, 1) := by decide +kernel
theorem dl_341 : decode code 341 = .ok (.aload_n 0, 1) := by decide +kernel
theorem dl_342 : decode code 342 = .ok (.iload 4, 2) := by decide +kernel
theorem dl_344 : decode code 344 = .ok (.iconst 1, 1) := by decide +kernel
theorem dl_345 : decode code 345 = .ok (.iadd, 1) := by decide +kernel
theorem dl_346 : decode code 346 = .ok (.iaload, 1) := by decide +kernel
theorem dl_347 : decode code 347 = .ok (.aload_n 0, 1) := by decide +kernel
theorem dl_348 : decode code 348 = .ok (.iload 4, 2) := by decide +kernel
theorem dl_350 : decode code 350 = .ok (.iconst 2, 1) := by decide +kernel
theorem dl_351 : decode code 351 = .ok (.iadd, 1) := by decide +kernel
theorem dl_352 : decode code 352 = .ok (.iaload, 1) := by decide +kernel
theorem dl_353 : decode code 353 = .ok (.aload_n 3, 1) := by decide +kernel
theorem dl_354 : decode code 354 = .ok (.invokestatic 42, 3) := by decide +kernel
theorem dl_357 : decode code 357 = .ok (.istore 5, 2) := by decide +kernel
theorem dl_359 : decode code 359 = .ok (.aload_n 2, 1) := by decide +kernel
theorem dl_360 : decode code 360 = .ok (.aload_n 0, 1) := by decide +kernel
theorem dl_361 : decode code 361 = .ok (.iload 4, 2) := by decide +kernel
theorem dl_363 : decode code 363 = .ok (.iconst 1, 1) := by decide +kernel
theorem dl_364 : decode code 364 = .ok (.iadd, 1) := by decide +kernel
theorem dl_365 : decode code 365 = .ok (.iaload, 1) := by decide +kernel
theorem dl_366 : decode code 366 = .ok (.aload_n 0, 1) := by decide +kernel
theorem dl_367 : decode code 367 = .ok (.iload 4, 2) := by decide +kernel
theorem dl_369 : decode code 369 = .ok (.iconst 2, 1) := by decide +kernel
theorem dl_370 : decode code 370 = .ok (.iadd, 1) := by decide +kernel
theorem dl_371 : decode code 371 = .ok (.iaload, 1) := by decide +kernel
theorem dl_372 : decode code 372 = .ok (.invokevirtual 47, 3) := by decide +kernel
theorem dl_375 : decode code 375 = .ok (.istore 6, 2) := by decide +kernel
theorem dl_377 : decode code 377 = .ok (.aload_n 2, 1) := by decide +kernel
theorem dl_378 : decode code 378 = .ok (.invokevirtual 48, 3) := by decide +kernel
theorem dl_381 : decode code 381 = .ok (.iload 5, 2) := by decide +kernel
theorem dl_383 : decode code 383 = .ok (.if_icmp .eq 5, 3) := by decide +kernel
theorem dl_386 : decode code 386 = .ok (.iconst 0, 1) := by decide +kernel
theorem dl_387 : decode code 387 = .ok (.ireturn, 1) := by decide +kernel
theorem dl_388 : decode code 388 = .ok (.iload 5, 2) := by decide +kernel
theorem dl_390 : decode code 390 = .ok (.ifCond .ne 15, 3) := by decide +kernel
theorem dl_393 : decode code 393 = .ok (.aload_n 3, 1) := by decide +kernel
theorem dl_394 : decode code 394 = .ok (.iconst 0, 1) := by decide +kernel
theorem dl_395 : decode code 395 = .ok (.laload, 1) := by decide +kernel
theorem dl_396 : decode code 396 = .ok (.iload 6, 2) := by decide +kernel
theorem dl_398 : decode code 398 = .ok (.i2l, 1) := by decide +kernel
theorem dl_399 : decode code 399 = .ok (.lcmp, 1) := by decide +kernel
theorem dl_400 : decode code 400 = .ok (.ifCond .eq 5, 3) := by decide +kernel
theorem dl_403 : decode code 403 = .ok (.iconst 0, 1) := by decide +kernel
theorem dl_404 : decode code 404 = .ok (.ireturn, 1) := by decide +kernel
theorem dl_405 : decode code 405 = .ok (.goto 1256, 3) := by decide +kernel
theorem dl_408 : decode code 408 = .ok (.aload_n 1, 1) := by decide +kernel
theorem dl_409 : decode code 409 = .ok (.aload_n 0, 1) := by decide +kernel
theorem dl_410 : decode code 410 = .ok (.iload 4, 2) := by decide +kernel
theorem dl_412 : decode code 412 = .ok (.iconst 1, 1) := by decide +kernel
theorem dl_413 : decode code 413 = .ok (.iadd, 1) := by decide +kernel
theorem dl_414 : decode code 414 = .ok (.iaload, 1) := by decide +kernel
theorem dl_415 : decode code 415 = .ok (.aload_n 0, 1) := by decide +kernel
theorem dl_416 : decode code 416 = .ok (.iload 4, 2) := by decide +kernel
theorem dl_418 : decode code 418 = .ok (.iconst 2, 1) := by decide +kernel
theorem dl_419 : decode code 419 = .ok (.iadd, 1) := by decide +kernel
theorem dl_420 : decode code 420 = .ok (.iaload, 1) := by decide +kernel
theorem dl_421 : decode code 421 = .ok (.aload_n 0, 1) := by decide +kernel
theorem dl_422 : decode code 422 = .ok (.iload 4, 2) := by decide +kernel
theorem dl_424 : decode code 424 = .ok (.iconst 3, 1) := by decide +kernel
theorem dl_425 : decode code 425 = .ok (.iadd, 1) := by decide +kernel
theorem dl_426 : decode code 426 = .ok (.iaload, 1) := by decide +kernel
theorem dl_427 : decode code 427 = .ok (.aload_n 0, 1) := by decide +kernel
theorem dl_428 : decode code 428 = .ok (.iload 4, 2) := by decide +kernel
theorem dl_430 : decode code 430 = .ok (.iconst 4, 1) := by decide +kernel
theorem dl_431 : decode code 431 = .ok (.iadd, 1) := by decide +kernel
theorem dl_432 : decode code 432 = .ok (.iaload, 1) := by decide +kernel
theorem dl_433 : decode code 433 = .ok (.invokevirtual 51, 3) := by decide +kernel
theorem dl_436 : decode code 436 = .ok (.aload_n 2, 1) := by decide +kernel
theorem dl_437 : decode code 437 = .ok (.aload_n 0, 1) := by decide +kernel
theorem dl_438 : decode code 438 = .ok (.iload 4, 2) := by decide +kernel
theorem dl_440 : decode code 440 = .ok (.iconst 1, 1) := by decide +kernel
theorem dl_441 : decode code 441 = .ok (.iadd, 1) := by decide +kernel
theorem dl_442 : decode code 442 = .ok (.iaload, 1) := by decide +kernel
theorem dl_443 : decode code 443 = .ok (.aload_n 0, 1) := by decide +kernel
theorem dl_444 : decode code 444 = .ok (.iload 4, 2) := by decide +kernel
theorem dl_446 : decode code 446 = .ok (.iconst 2, 1) := by decide +kernel
theorem dl_447 : decode code 447 = .ok (.iadd, 1) := by decide +kernel
theorem dl_448 : decode code 448 = .ok (.iaload, 1) := by decide +kernel
theorem dl_449 : decode code 449 = .ok (.aload_n 0, 1) := by decide +kernel
theorem dl_450 : decode code 450 = .ok (.iload 4, 2) := by decide +kernel
theorem dl_452 : decode code 452 = .ok (.iconst 3, 1) := by decide +kernel
theorem dl_453 : decode code 453 = .ok (.iadd, 1) := by decide +kernel
theorem dl_454 : decode code 454 = .ok (.iaload, 1) := by decide +kernel
theorem dl_455 : decode code 455 = .ok (.aload_n 0, 1) := by decide +kernel
theorem dl_456 : decode code 456 = .ok (.iload 4, 2) := by decide +kernel
theorem dl_458 : decode code 458 = .ok (.iconst 4, 1) := by decide +kernel
theorem dl_459 : decode code 459 = .ok (.iadd, 1) := by decide +kernel
theorem dl_460 : decode code 460 = .ok (.iaload, 1) := by decide +kernel
theorem dl_461 : decode code 461 = .ok (.invokevirtual 55, 3) := by decide +kernel
theorem dl_464 : decode code 464 = .ok (.if_icmp .eq 1197, 3) := by decide +kernel
theorem dl_467 : decode code 467 = .ok (.iconst 0, 1) := by decide +kernel
theorem dl_468 : decode code 468 = .ok (.ireturn, 1) := by decide +kernel
theorem dl_469 : decode code 469 = .ok (.aload_n 1, 1) := by decide +kernel
theorem dl_470 : decode code 470 = .ok (.aload_n 0, 1) := by decide +kernel
theorem dl_471 : decode code 471 = .ok (.iload 4, 2) := by decide +kernel
theorem dl_473 : decode code 473 = .ok (.iconst 1, 1) := by decide +kernel
theorem dl_474 : decode code 474 = .ok (.iadd, 1) := by decide +kernel
theorem dl_475 : decode code 475 = .ok (.iaload, 1) := by decide +kernel
theorem dl_476 : decode code 476 = .ok (.aload_n 0, 1) := by decide +kernel
theorem dl_477 : decode code 477 = .ok (.iload 4, 2) := by decide +kernel
theorem dl_479 : decode code 479 = .ok (.iconst 2, 1) := by decide +kernel
theorem dl_480 : decode code 480 = .ok (.iadd, 1) := by decide +kernel
theorem dl_481 : decode code 481 = .ok (.iaload, 1) := by decide +kernel
theorem dl_482 : decode code 482 = .ok (.invokevirtual 56, 3) := by decide +kernel
theorem dl_485 : decode code 485 = .ok (.aload_n 2, 1) := by decide +kernel
theorem dl_486 : decode code 486 = .ok (.aload_n 0, 1) := by decide +kernel
theorem dl_487 : decode code 487 = .ok (.iload 4, 2) := by decide +kernel
theorem dl_489 : decode code 489 = .ok (.iconst 1, 1) := by decide +kernel
theorem dl_490 : decode code 490 = .ok (.iadd, 1) := by decide +kernel
theorem dl_491 : decode code 491 = .ok (.iaload, 1) := by decide +kernel
theorem dl_492 : decode code 492 = .ok (.aload_n 0, 1) := by decide +kernel
theorem dl_493 : decode code 493 = .ok (.iload 4, 2) := by decide +kernel
theorem dl_495 : decode code 495 = .ok (.iconst 2, 1) := by decide +kernel
theorem dl_496 : decode code 496 = .ok (.iadd, 1) := by decide +kernel
theorem dl_497 : decode code 497 = .ok (.iaload, 1) := by decide +kernel
theorem dl_498 : decode code 498 = .ok (.invokevirtual 59, 3) := by decide +kernel
theorem dl_501 : decode code 501 = .ok (.if_icmp .eq 1160, 3) := by decide +kernel
theorem dl_504 : decode code 504 = .ok (.iconst 0, 1) := by decide +kernel
theorem dl_505 : decode code 505 = .ok (.ireturn, 1) := by decide +kernel
theorem dl_506 : decode code 506 = .ok (.aload_n 1, 1) := by decide +kernel
theorem dl_507 : decode code 507 = .ok (.aload_n 0, 1) := by decide +kernel
theorem dl_508 : decode code 508 = .ok (.iload 4, 2) := by decide +kernel
theorem dl_510 : decode code 510 = .ok (.iconst 1, 1) := by decide +kernel
theorem dl_511 : decode code 511 = .ok (.iadd, 1) := by decide +kernel
theorem dl_512 : decode code 512 = .ok (.iaload, 1) := by decide +kernel
theorem dl_513 : decode code 513 = .ok (.invokevirtual 60, 3) := by decide +kernel
theorem dl_516 : decode code 516 = .ok (.aload_n 2, 1) := by decide +kernel
theorem dl_517 : decode code 517 = .ok (.aload_n 0, 1) := by decide +kernel
theorem dl_518 : decode code 518 = .ok (.iload 4, 2) := by decide +kernel
theorem dl_520 : decode code 520 = .ok (.iconst 1, 1) := by decide +kernel
theorem dl_521 : decode code 521 = .ok (.iadd, 1) := by decide +kernel
theorem dl_522 : decode code 522 = .ok (.iaload, 1) := by decide +kernel
theorem dl_523 : decode code 523 = .ok (.invokevirtual 63, 3) := by decide +kernel
theorem dl_526 : decode code 526 = .ok (.if_icmp .eq 1135, 3) := by decide +kernel
theorem dl_529 : decode code 529 = .ok (.iconst 0, 1) := by decide +kernel
theorem dl_530 : decode code 530 = .ok (.ireturn, 1) := by decide +kernel
theorem dl_531 : decode code 531 = .ok (.aload_n 1, 1) := by decide +kernel
theorem dl_532 : decode code 532 = .ok (.aload_n 0, 1) := by decide +kernel
theorem dl_533 : decode code 533 = .ok (.iload 4, 2) := by decide +kernel
theorem dl_535 : decode code 535 = .ok (.iconst 1, 1) := by decide +kernel
theorem dl_536 : decode code 536 = .ok (.iadd, 1) := by decide +kernel
theorem dl_537 : decode code 537 = .ok (.iaload, 1) := by decide +kernel
theorem dl_538 : decode code 538 = .ok (.aload_n 0, 1) := by decide +kernel
theorem dl_539 : decode code 539 = .ok (.iload 4, 2) := by decide +kernel
theorem dl_541 : decode code 541 = .ok (.iconst 2, 1) := by decide +kernel
theorem dl_542 : decode code 542 = .ok (.iadd, 1) := by decide +kernel
theorem dl_543 : decode code 543 = .ok (.iaload, 1) := by decide +kernel
theorem dl_544 : decode code 544 = .ok (.invokevirtual 64, 3) := by decide +kernel
theorem dl_547 : decode code 547 = .ok (.aload_n 2, 1) := by decide +kernel
theorem dl_548 : decode code 548 = .ok (.aload_n 0, 1) := by decide +kernel
theorem dl_549 : decode code 549 = .ok (.iload 4, 2) := by decide +kernel
theorem dl_551 : decode code 551 = .ok (.iconst 1, 1) := by decide +kernel
theorem dl_552 : decode code 552 = .ok (.iadd, 1) := by decide +kernel
theorem dl_553 : decode code 553 = .ok (.iaload, 1) := by decide +kernel
theorem dl_554 : decode code 554 = .ok (.aload_n 0, 1) := by decide +kernel
theorem dl_555 : decode code 555 = .ok (.iload 4, 2) := by decide +kernel
theorem dl_557 : decode code 557 = .ok (.iconst 2, 1) := by decide +kernel
theorem dl_558 : decode code 558 = .ok (.iadd, 1) := by decide +kernel
theorem dl_559 : decode code 559 = .ok (.iaload, 1) := by decide +kernel
theorem dl_560 : decode code 560 = .ok (.invokevirtual 67, 3) := by decide +kernel
theorem dl_563 : decode code 563 = .ok (.if_icmp .eq 1098, 3) := by decide +kernel
theorem dl_566 : decode code 566 = .ok (.iconst 0, 1) := by decide +kernel
theorem dl_567 : decode code 567 = .ok (.ireturn, 1) := by decide +kernel
theorem dl_568 : decode code 568 = .ok (.aload_n 1, 1) := by decide +kernel
theorem dl_569 : decode code 569 = .ok (.aload_n 0, 1) := by decide +kernel
theorem dl_570 : decode code 570 = .ok (.iload 4, 2) := by decide +kernel
theorem dl_572 : decode code 572 = .ok (.iconst 1, 1) := by decide +kernel
theorem dl_573 : decode code 573 = .ok (.iadd, 1) := by decide +kernel
theorem dl_574 : decode code 574 = .ok (.iaload, 1) := by decide +kernel
theorem dl_575 : decode code 575 = .ok (.aload_n 0, 1) := by decide +kernel
theorem dl_576 : decode code 576 = .ok (.iload 4, 2) := by decide +kernel
theorem dl_578 : decode code 578 = .ok (.iconst 2, 1) := by decide +kernel
theorem dl_579 : decode code 579 = .ok (.iadd, 1) := by decide +kernel
theorem dl_580 : decode code 580 = .ok (.iaload, 1) := by decide +kernel
theorem dl_581 : decode code 581 = .ok (.invokevirtual 68, 3) := by decide +kernel
theorem dl_584 : decode code 584 = .ok (.aload_n 2, 1) := by decide +kernel
theorem dl_585 : decode code 585 = .ok (.aload_n 0, 1) := by decide +kernel
theorem dl_586 : decode code 586 = .ok (.iload 4, 2) := by decide +kernel
theorem dl_588 : decode code 588 = .ok (.iconst 1, 1) := by decide +kernel
theorem dl_589 : decode code 589 = .ok (.iadd, 1) := by decide +kernel
theorem dl_590 : decode code 590 = .ok (.iaload, 1) := by decide +kernel
theorem dl_591 : decode code 591 = .ok (.aload_n 0, 1) := by decide +kernel
theorem dl_592 : decode code 592 = .ok (.iload 4, 2) := by decide +kernel
theorem dl_594 : decode code 594 = .ok (.iconst 2, 1) := by decide +kernel
theorem dl_595 : decode code 595 = .ok (.iadd, 1) := by decide +kernel
theorem dl_596 : decode code 596 = .ok (.iaload, 1) := by decide +kernel
theorem dl_597 : decode code 597 = .ok (.invokevirtual 71, 3) := by decide +kernel
theorem dl_600 : decode code 600 = .ok (.if_icmp .eq 1061, 3) := by decide +kernel
theorem dl_603 : decode code 603 = .ok (.iconst 0, 1) := by decide +kernel
theorem dl_604 : decode code 604 = .ok (.ireturn, 1) := by decide +kernel
theorem dl_605 : decode code 605 = .ok (.aload_n 1, 1) := by decide +kernel
theorem dl_606 : decode code 606 = .ok (.aload_n 0, 1) := by decide +kernel
theorem dl_607 : decode code 607 = .ok (.iload 4, 2) := by decide +kernel
theorem dl_609 : decode code 609 = .ok (.iconst 1, 1) := by decide +kernel
theorem dl_610 : decode code 610 = .ok (.iadd, 1) := by decide +kernel
theorem dl_611 : decode code 611 = .ok (.iaload, 1) := by decide +kernel
theorem dl_612 : decode code 612 = .ok (.invokevirtual 72, 3) := by decide +kernel
theorem dl_615 : decode code 615 = .ok (.aload_n 2, 1) := by decide +kernel
theorem dl_616 : decode code 616 = .ok (.aload_n 0, 1) := by decide +kernel
theorem dl_617 : decode code 617 = .ok (.iload 4, 2) := by decide +kernel
theorem dl_619 : decode code 619 = .ok (.iconst 1, 1) := by decide +kernel
theorem dl_620 : decode code 620 = .ok (.iadd, 1) := by decide +kernel
theorem dl_621 : decode code 621 = .ok (.iaload, 1) := by decide +kernel
theorem dl_622 : decode code 622 = .ok (.invokevirtual 75, 3) := by decide +kernel
theorem dl_625 : decode code 625 = .ok (.if_icmp .eq 1036, 3) := by decide +kernel
theorem dl_628 : decode code 628 = .ok (.iconst 0, 1) := by decide +kernel
theorem dl_629 : decode code 629 = .ok (.ireturn, 1) := by decide +kernel
theorem dl_630 : decode code 630 = .ok (.aload_n 1, 1) := by decide +kernel
theorem dl_631 : decode code 631 = .ok (.invokevirtual 76, 3) := by decide +kernel
theorem dl_634 : decode code 634 = .ok (.aload_n 2, 1) := by decide +kernel
theorem dl_635 : decode code 635 = .ok (.invokevirtual 79, 3) := by decide +kernel
theorem dl_638 : decode code 638 = .ok (.if_icmp .eq 1023, 3) := by decide +kernel
theorem dl_641 : decode code 641 = .ok (.iconst 0, 1) := by decide +kernel
theorem dl_642 : decode code 642 = .ok (.ireturn, 1) := by decide +kernel
theorem dl_643 : decode code 643 = .ok (.aload_n 1, 1) := by decide +kernel
theorem dl_644 : decode code 644 = .ok (.invokevirtual 80, 3) := by decide +kernel
theorem dl_647 : decode code 647 = .ok (.aload_n 2, 1) := by decide +kernel
theorem dl_648 : decode code 648 = .ok (.invokevirtual 83, 3) := by decide +kernel
theorem dl_651 : decode code 651 = .ok (.if_icmp .eq 1010, 3) := by decide +kernel
theorem dl_654 : decode code 654 = .ok (.iconst 0, 1) := by decide +kernel
theorem dl_655 : decode code 655 = .ok (.ireturn, 1) := by decide +kernel
theorem dl_656 : decode code 656 = .ok (.aload_n 1, 1) := by decide +kernel
theorem dl_657 : decode code 657 = .ok (.aload_n 0, 1) := by decide +kernel
theorem dl_658 : decode code 658 = .ok (.iload 4, 2) := by decide +kernel
theorem dl_660 : decode code 660 = .ok (.iconst 1, 1) := by decide +kernel
theorem dl_661 : decode code 661 = .ok (.iadd, 1) := by decide +kernel
theorem dl_662 : decode code 662 = .ok (.iaload, 1) := by decide +kernel
theorem dl_663 : decode code 663 = .ok (.aload_n 0, 1) := by decide +kernel
theorem dl_664 : decode code 664 = .ok (.iload 4, 2) := by decide +kernel
theorem dl_666 : decode code 666 = .ok (.iconst 2, 1) := by decide +kernel
theorem dl_667 : decode code 667 = .ok (.iadd, 1) := by decide +kernel
theorem dl_668 : decode code 668 = .ok (.iaload, 1) := by decide +kernel
theorem dl_669 : decode code 669 = .ok (.invokevirtual 84, 3) := by decide +kernel
theorem dl_672 : decode code 672 = .ok (.aload_n 2, 1) := by decide +kernel
theorem dl_673 : decode code 673 = .ok (.aload_n 0, 1) := by decide +kernel
theorem dl_674 : decode code 674 = .ok (.iload 4, 2) := by decide +kernel
theorem dl_676 : decode code 676 = .ok (.iconst 1, 1) := by decide +kernel
theorem dl_677 : decode code 677 = .ok (.iadd, 1) := by decide +kernel
theorem dl_678 : decode code 678 = .ok (.iaload, 1) := by decide +kernel
theorem dl_679 : decode code 679 = .ok (.aload_n 0, 1) := by decide +kernel
theorem dl_680 : decode code 680 = .ok (.iload 4, 2) := by decide +kernel
theorem dl_682 : decode code 682 = .ok (.iconst 2, 1) := by decide +kernel
theorem dl_683 : decode code 683 = .ok (.iadd, 1) := by decide +kernel
theorem dl_684 : decode code 684 = .ok (.iaload, 1) := by decide +kernel
theorem dl_685 : decode code 685 = .ok (.invokevirtual 87, 3) := by decide +kernel
theorem dl_688 : decode code 688 = .ok (.if_icmp .eq 973, 3) := by decide +kernel
theorem dl_691 : decode code 691 = .ok (.iconst 0, 1) := by decide +kernel
theorem dl_692 : decode code 692 = .ok (.ireturn, 1) := by decide +kernel
theorem dl_693 : decode code 693 = .ok (.aload_n 1, 1) := by decide +kernel
theorem dl_694 : decode code 694 = .ok (.aload_n 0, 1) := by decide +kernel
theorem dl_695 : decode code 695 = .ok (.iload 4, 2) := by decide +kernel
theorem dl_697 : decode code 697 = .ok (.iconst 1, 1) := by decide +kernel
theorem dl_698 : decode code 698 = .ok (.iadd, 1) := by decide +kernel
theorem dl_699 : decode code 699 = .ok (.iaload, 1) := by decide +kernel
theorem dl_700 : decode code 700 = .ok (.aload_n 0, 1) := by decide +kernel
theorem dl_701 : decode code 701 = .ok (.iload 4, 2) := by decide +kernel
theorem dl_703 : decode code 703 = .ok (.iconst 2, 1) := by decide +kernel
theorem dl_704 : decode code 704 = .ok (.iadd, 1) := by decide +kernel
theorem dl_705 : decode code 705 = .ok (.iaload, 1) := by decide +kernel
theorem dl_706 : decode code 706 = .ok (.invokevirtual 88, 3) := by decide +kernel
theorem dl_709 : decode code 709 = .ok (.aload_n 2, 1) := by decide +kernel
theorem dl_710 : decode code 710 = .ok (.aload_n 0, 1) := by decide +kernel
theorem dl_711 : decode code 711 = .ok (.iload 4, 2) := by decide +kernel
theorem dl_713 : decode code 713 = .ok (.iconst 1, 1) := by decide +kernel
theorem dl_714 : decode code 714 = .ok (.iadd, 1) := by decide +kernel
theorem dl_715 : decode code 715 = .ok (.iaload, 1) := by decide +kernel
theorem dl_716 : decode code 716 = .ok (.aload_n 0, 1) := by decide +kernel
theorem dl_717 : decode code 717 = .ok (.iload 4, 2) := by decide +kernel
theorem dl_719 : decode code 719 = .ok (.iconst 2, 1) := by decide +kernel
theorem dl_720 : decode code 720 = .ok (.iadd, 1) := by decide +kernel
theorem dl_721 : decode code 721 = .ok (.iaload, 1) := by decide +kernel
theorem dl_722 : decode code 722 = .ok (.invokevirtual 91, 3) := by decide +kernel
theorem dl_725 : decode code 725 = .ok (.if_icmp .eq 936, 3) := by decide +kernel
theorem dl_728 : decode code 728 = .ok (.iconst 0, 1) := by decide +kernel
theorem dl_729 : decode code 729 = .ok (.ireturn, 1) := by decide +kernel
theorem dl_730 : decode code 730 = .ok (.aload_n 1, 1) := by decide +kernel
theorem dl_731 : decode code 731 = .ok (.invokevirtual 92, 3) := by decide +kernel
theorem dl_734 : decode code 734 = .ok (.aload_n 2, 1) := by decide +kernel
theorem dl_735 : decode code 735 = .ok (.invokevirtual 95, 3) := by decide +kernel
theorem dl_738 : decode code 738 = .ok (.if_icmp .eq 923, 3) := by decide +kernel
theorem dl_741 : decode code 741 = .ok (.iconst 0, 1) := by decide +kernel
theorem dl_742 : decode code 742 = .ok (.ireturn, 1) := by decide +kernel
theorem dl_743 : decode code 743 = .ok (.aload_n 1, 1) := by decide +kernel
theorem dl_744 : decode code 744 = .ok (.aload_n 0, 1) := by decide +kernel
theorem dl_745 : decode code 745 = .ok (.iload 4, 2) := by decide +kernel
theorem dl_747 : decode code 747 = .ok (.iconst 1, 1) := by decide +kernel
theorem dl_748 : decode code 748 = .ok (.iadd, 1) := by decide +kernel
theorem dl_749 : decode code 749 = .ok (.iaload, 1) := by decide +kernel
theorem dl_750 : decode code 750 = .ok (.aload_n 0, 1) := by decide +kernel
theorem dl_751 : decode code 751 = .ok (.iload 4, 2) := by decide +kernel
theorem dl_753 : decode code 753 = .ok (.iconst 2, 1) := by decide +kernel
theorem dl_754 : decode code 754 = .ok (.iadd, 1) := by decide +kernel
theorem dl_755 : decode code 755 = .ok (.iaload, 1) := by decide +kernel
theorem dl_756 : decode code 756 = .ok (.invokevirtual 96, 3) := by decide +kernel
theorem dl_759 : decode code 759 = .ok (.aload_n 2, 1) := by decide +kernel
theorem dl_760 : decode code 760 = .ok (.aload_n 0, 1) := by decide +kernel
theorem dl_761 : decode code 761 = .ok (.iload 4, 2) := by decide +kernel
theorem dl_763 : decode code 763 = .ok (.iconst 1, 1) := by decide +kernel
theorem dl_764 : decode code 764 = .ok (.iadd, 1) := by decide +kernel
theorem dl_765 : decode code 765 = .ok (.iaload, 1) := by decide +kernel
theorem dl_766 : decode code 766 = .ok (.aload_n 0, 1) := by decide +kernel
theorem dl_767 : decode code 767 = .ok (.iload 4, 2) := by decide +kernel
theorem dl_769 : decode code 769 = .ok (.iconst 2, 1) := by decide +kernel
theorem dl_770 : decode code 770 = .ok (.iadd, 1) := by decide +kernel
theorem dl_771 : decode code 771 = .ok (.iaload, 1) := by decide +kernel
theorem dl_772 : decode code 772 = .ok (.invokevirtual 99, 3) := by decide +kernel
theorem dl_775 : decode code 775 = .ok (.if_icmp .eq 886, 3) := by decide +kernel
theorem dl_778 : decode code 778 = .ok (.iconst 0, 1) := by decide +kernel
theorem dl_779 : decode code 779 = .ok (.ireturn, 1) := by decide +kernel
theorem dl_780 : decode code 780 = .ok (.aload_n 1, 1) := by decide +kernel
theorem dl_781 : decode code 781 = .ok (.invokevirtual 100, 3) := by decide +kernel
theorem dl_784 : decode code 784 = .ok (.aload_n 2, 1) := by decide +kernel
theorem dl_785 : decode code 785 = .ok (.invokevirtual 103, 3) := by decide +kernel
theorem dl_788 : decode code 788 = .ok (.if_icmp .eq 873, 3) := by decide +kernel
theorem dl_791 : decode code 791 = .ok (.iconst 0, 1) := by decide +kernel
theorem dl_792 : decode code 792 = .ok (.ireturn, 1) := by decide +kernel
theorem dl_793 : decode code 793 = .ok (.aload_n 1, 1) := by decide +kernel
theorem dl_794 : decode code 794 = .ok (.aload_n 0, 1) := by decide +kernel
theorem dl_795 : decode code 795 = .ok (.iload 4, 2) := by decide +kernel
theorem dl_797 : decode code 797 = .ok (.iconst 1, 1) := by decide +kernel
theorem dl_798 : decode code 798 = .ok (.iadd, 1) := by decide +kernel
theorem dl_799 : decode code 799 = .ok (.iaload, 1) := by decide +kernel
theorem dl_800 : decode code 800 = .ok (.aload_n 0, 1) := by decide +kernel
theorem dl_801 : decode code 801 = .ok (.iload 4, 2) := by decide +kernel
theorem dl_803 : decode code 803 = .ok (.iconst 2, 1) := by decide +kernel
theorem dl_804 : decode code 804 = .ok (.iadd, 1) := by decide +kernel
theorem dl_805 : decode code 805 = .ok (.iaload, 1) := by decide +kernel
theorem dl_806 : decode code 806 = .ok (.aload_n 0, 1) := by decide +kernel
theorem dl_807 : decode code 807 = .ok (.iload 4, 2) := by decide +kernel
theorem dl_809 : decode code 809 = .ok (.iconst 3, 1) := by decide +kernel
theorem dl_810 : decode code 810 = .ok (.iadd, 1) := by decide +kernel
theorem dl_811 : decode code 811 = .ok (.iaload, 1) := by decide +kernel
theorem dl_812 : decode code 812 = .ok (.invokevirtual 104, 3) := by decide +kernel
theorem dl_815 : decode code 815 = .ok (.aload_n 2, 1) := by decide +kernel
theorem dl_816 : decode code 816 = .ok (.aload_n 0, 1) := by decide +kernel
theorem dl_817 : decode code 817 = .ok (.iload 4, 2) := by decide +kernel
theorem dl_819 : decode code 819 = .ok (.iconst 1, 1) := by decide +kernel
theorem dl_820 : decode code 820 = .ok (.iadd, 1) := by decide +kernel
theorem dl_821 : decode code 821 = .ok (.iaload, 1) := by decide +kernel
theorem dl_822 : decode code 822 = .ok (.aload_n 0, 1) := by decide +kernel
theorem dl_823 : decode code 823 = .ok (.iload 4, 2) := by decide +kernel
theorem dl_825 : decode code 825 = .ok (.iconst 2, 1) := by decide +kernel
theorem dl_826 : decode code 826 = .ok (.iadd, 1) := by decide +kernel
theorem dl_827 : decode code 827 = .ok (.iaload, 1) := by decide +kernel
theorem dl_828 : decode code 828 = .ok (.aload_n 0, 1) := by decide +kernel
theorem dl_829 : decode code 829 = .ok (.iload 4, 2) := by decide +kernel
theorem dl_831 : decode code 831 = .ok (.iconst 3, 1) := by decide +kernel
theorem dl_832 : decode code 832 = .ok (.iadd, 1) := by decide +kernel
theorem dl_833 : decode code 833 = .ok (.iaload, 1) := by decide +kernel
theorem dl_834 : decode code 834 = .ok (.invokevirtual 108, 3) := by decide +kernel
theorem dl_837 : decode code 837 = .ok (.if_icmp .eq 824, 3) := by decide +kernel
theorem dl_840 : decode code 840 = .ok (.iconst 0, 1) := by decide +kernel
theorem dl_841 : decode code 841 = .ok (.ireturn, 1) := by decide +kernel
theorem dl_842 : decode code 842 = .ok (.aload_n 1, 1) := by decide +kernel
theorem dl_843 : decode code 843 = .ok (.aload_n 0, 1) := by decide +kernel
theorem dl_844 : decode code 844 = .ok (.iload 4, 2) := by decide +kernel
theorem dl_846 : decode code 846 = .ok (.iconst 1, 1) := by decide +kernel
theorem dl_847 : decode code 847 = .ok (.iadd, 1) := by decide +kernel
theorem dl_848 : decode code 848 = .ok (.iaload, 1) := by decide +kernel
theorem dl_849 : decode code 849 = .ok (.invokevirtual 109, 3) := by decide +kernel
theorem dl_852 : decode code 852 = .ok (.aload_n 2, 1) := by decide +kernel
theorem dl_853 : decode code 853 = .ok (.aload_n 0, 1) := by decide +kernel
theorem dl_854 : decode code 854 = .ok (.iload 4, 2) := by decide +kernel
theorem dl_856 : decode code 856 = .ok (.iconst 1, 1) := by decide +kernel
theorem dl_857 : decode code 857 = .ok (.iadd, 1) := by decide +kernel
theorem dl_858 : decode code 858 = .ok (.iaload, 1) := by decide +kernel
theorem dl_859 : decode code 859 = .ok (.invokevirtual 112, 3) := by decide +kernel
theorem dl_862 : decode code 862 = .ok (.if_icmp .eq 799, 3) := by decide +kernel
theorem dl_865 : decode code 865 = .ok (.iconst 0, 1) := by decide +kernel
theorem dl_866 : decode code 866 = .ok (.ireturn, 1) := by decide +kernel
theorem dl_867 : decode code 867 = .ok (.aload_n 1, 1) := by decide +kernel
theorem dl_868 : decode code 868 = .ok (.invokevirtual 113, 3) := by decide +kernel
theorem dl_871 : decode code 871 = .ok (.aload_n 2, 1) := by decide +kernel
theorem dl_872 : decode code 872 = .ok (.invokevirtual 116, 3) := by decide +kernel
theorem dl_875 : decode code 875 = .ok (.if_icmp .eq 786, 3) := by decide +kernel
theorem dl_878 : decode code 878 = .ok (.iconst 0, 1) := by decide +kernel
theorem dl_879 : decode code 879 = .ok (.ireturn, 1) := by decide +kernel
theorem dl_880 : decode code 880 = .ok (.aload_n 1, 1) := by decide +kernel
theorem dl_881 : decode code 881 = .ok (.aload_n 0, 1) := by decide +kernel
theorem dl_882 : decode code 882 = .ok (.iload 4, 2) := by decide +kernel
theorem dl_884 : decode code 884 = .ok (.iconst 1, 1) := by decide +kernel
theorem dl_885 : decode code 885 = .ok (.iadd, 1) := by decide +kernel
theorem dl_886 : decode code 886 = .ok (.iaload, 1) := by decide +kernel
theorem dl_887 : decode code 887 = .ok (.invokevirtual 117, 3) := by decide +kernel
theorem dl_890 : decode code 890 = .ok (.aload_n 2, 1) := by decide +kernel
theorem dl_891 : decode code 891 = .ok (.aload_n 0, 1) := by decide +kernel
theorem dl_892 : decode code 892 = .ok (.iload 4, 2) := by decide +kernel
theorem dl_894 : decode code 894 = .ok (.iconst 1, 1) := by decide +kernel
theorem dl_895 : decode code 895 = .ok (.iadd, 1) := by decide +kernel
theorem dl_896 : decode code 896 = .ok (.iaload, 1) := by decide +kernel
theorem dl_897 : decode code 897 = .ok (.invokevirtual 120, 3) := by decide +kernel
theorem dl_900 : decode code 900 = .ok (.if_icmp .eq 761, 3) := by decide +kernel
theorem dl_903 : decode code 903 = .ok (.iconst 0, 1) := by decide +kernel
theorem dl_904 : decode code 904 = .ok (.ireturn, 1) := by decide +kernel
theorem dl_905 : decode code 905 = .ok (.aload_n 1, 1) := by decide +kernel
theorem dl_906 : decode code 906 = .ok (.invokevirtual 121, 3) := by decide +kernel
theorem dl_909 : decode code 909 = .ok (.aload_n 2, 1) := by decide +kernel
theorem dl_910 : decode code 910 = .ok (.invokevirtual 124, 3) := by decide +kernel
theorem dl_913 : decode code 913 = .ok (.if_icmp .eq 748, 3) := by decide +kernel
theorem dl_916 : decode code 916 = .ok (.iconst 0, 1) := by decide +kernel
theorem dl_917 : decode code 917 = .ok (.ireturn, 1) := by decide +kernel
theorem dl_918 : decode code 918 = .ok (.aload_n 1, 1) := by decide +kernel
theorem dl_919 : decode code 919 = .ok (.aload_n 0, 1) := by decide +kernel
theorem dl_920 : decode code 920 = .ok (.iload 4, 2) := by decide +kernel
theorem dl_922 : decode code 922 = .ok (.iconst 1, 1) := by decide +kernel
theorem dl_923 : decode code 923 = .ok (.iadd, 1) := by decide +kernel
theorem dl_924 : decode code 924 = .ok (.iaload, 1) := by decide +kernel
theorem dl_925 : decode code 925 = .ok (.invokevirtual 125, 3) := by decide +kernel
theorem dl_928 : decode code 928 = .ok (.aload_n 2, 1) := by decide +kernel
theorem dl_929 : decode code 929 = .ok (.aload_n 0, 1) := by decide +kernel
theorem dl_930 : decode code 930 = .ok (.iload 4, 2) := by decide +kernel
theorem dl_932 : decode code 932 = .ok (.iconst 1, 1) := by decide +kernel
theorem dl_933 : decode code 933 = .ok (.iadd, 1) := by decide +kernel
theorem dl_934 : decode code 934 = .ok (.iaload, 1) := by decide +kernel
theorem dl_935 : decode code 935 = .ok (.invokevirtual 128, 3) := by decide +kernel
theorem dl_938 : decode code 938 = .ok (.if_icmp .eq 723, 3) := by decide +kernel
theorem dl_941 : decode code 941 = .ok (.iconst 0, 1) := by decide +kernel
theorem dl_942 : decode code 942 = .ok (.ireturn, 1) := by decide +kernel
theorem dl_943 : decode code 943 = .ok (.aload_n 1, 1) := by decide +kernel
theorem dl_944 : decode code 944 = .ok (.invokevirtual 129, 3) := by decide +kernel
theorem dl_947 : decode code 947 = .ok (.aload_n 2, 1) := by decide +kernel
theorem dl_948 : decode code 948 = .ok (.invokevirtual 132, 3) := by decide +kernel
theorem dl_951 : decode code 951 = .ok (.if_icmp .eq 710, 3) := by decide +kernel
theorem dl_954 : decode code 954 = .ok (.iconst 0, 1) := by decide +kernel
theorem dl_955 : decode code 955 = .ok (.ireturn, 1) := by decide +kernel
theorem dl_956 : decode code 956 = .ok (.aload_n 1, 1) := by decide +kernel
theorem dl_957 : decode code 957 = .ok (.invokevirtual 133, 3) := by decide +kernel
theorem dl_960 : decode code 960 = .ok (.aload_n 2, 1) := by decide +kernel
theorem dl_961 : decode code 961 = .ok (.invokevirtual 136, 3) := by decide +kernel
theorem dl_964 : decode code 964 = .ok (.if_icmp .eq 697, 3) := by decide +kernel
theorem dl_967 : decode code 967 = .ok (.iconst 0, 1) := by decide +kernel
theorem dl_968 : decode code 968 = .ok (.ireturn, 1) := by decide +kernel
theorem dl_969 : decode code 969 = .ok (.aload_n 1, 1) := by decide +kernel
theorem dl_970 : decode code 970 = .ok (.invokevirtual 137, 3) := by decide +kernel
theorem dl_973 : decode code 973 = .ok (.aload_n 2, 1) := by decide +kernel
theorem dl_974 : decode code 974 = .ok (.invokevirtual 140, 3) := by decide +kernel
theorem dl_977 : decode code 977 = .ok (.if_icmp .eq 684, 3) := by decide +kernel
theorem dl_980 : decode code 980 = .ok (.iconst 0, 1) := by decide +kernel
theorem dl_981 : decode code 981 = .ok (.ireturn, 1) := by decide +kernel
theorem dl_982 : decode code 982 = .ok (.aload_n 1, 1) := by decide +kernel
theorem dl_983 : decode code 983 = .ok (.invokevirtual 141, 3) := by decide +kernel
theorem dl_986 : decode code 986 = .ok (.aload_n 2, 1) := by decide +kernel
theorem dl_987 : decode code 987 = .ok (.invokevirtual 144, 3) := by decide +kernel
theorem dl_990 : decode code 990 = .ok (.if_icmp .eq 671, 3) := by decide +kernel
theorem dl_993 : decode code 993 = .ok (.iconst 0, 1) := by decide +kernel
theorem dl_994 : decode code 994 = .ok (.ireturn, 1) := by decide +kernel
theorem dl_995 : decode code 995 = .ok (.aload_n 1, 1) := by decide +kernel
theorem dl_996 : decode code 996 = .ok (.invokevirtual 145, 3) := by decide +kernel
theorem dl_999 : decode code 999 = .ok (.aload_n 2, 1) := by decide +kernel
theorem dl_1000 : decode code 1000 = .ok (.invokevirtual 148, 3) := by decide +kernel
theorem dl_1003 : decode code 1003 = .ok (.if_icmp .eq 658, 3) := by decide +kernel
theorem dl_1006 : decode code 1006 = .ok (.iconst 0, 1) := by decide +kernel
theorem dl_1007 : decode code 1007 = .ok (.ireturn, 1) := by decide +kernel
theorem dl_1008 : decode code 1008 = .ok (.aload_n 1, 1) := by decide +kernel
theorem dl_1009 : decode code 1009 = .ok (.invokevirtual 149, 3) := by decide +kernel
theorem dl_1012 : decode code 1012 = .ok (.aload_n 2, 1) := by decide +kernel
theorem dl_1013 : decode code 1013 = .ok (.invokevirtual 152, 3) := by decide +kernel
theorem dl_1016 : decode code 1016 = .ok (.if_icmp .eq 645, 3) := by decide +kernel
theorem dl_1019 : decode code 1019 = .ok (.iconst 0, 1) := by decide +kernel
theorem dl_1020 : decode code 1020 = .ok (.ireturn, 1) := by decide +kernel
theorem dl_1021 : decode code 1021 = .ok (.aload_n 1, 1) := by decide +kernel
theorem dl_1022 : decode code 1022 = .ok (.aload_n 0, 1) := by decide +kernel
theorem dl_1023 : decode code 1023 = .ok (.iload 4, 2) := by decide +kernel
theorem dl_1025 : decode code 1025 = .ok (.iconst 1, 1) := by decide +kernel
theorem dl_1026 : decode code 1026 = .ok (.iadd, 1) := by decide +kernel
theorem dl_1027 : decode code 1027 = .ok (.iaload, 1) := by decide +kernel
theorem dl_1028 : decode code 1028 = .ok (.invokevirtual 153, 3) := by decide +kernel
theorem dl_1031 : decode code 1031 = .ok (.aload_n 2, 1) := by decide +kernel
theorem dl_1032 : decode code 1032 = .ok (.aload_n 0, 1) := by decide +kernel
theorem dl_1033 : decode code 1033 = .ok (.iload 4, 2) := by decide +kernel
theorem dl_1035 : decode code 1035 = .ok (.iconst 1, 1) := by decide +kernel
theorem dl_1036 : decode code 1036 = .ok (.iadd, 1) := by decide +kernel
theorem dl_1037 : decode code 1037 = .ok (.iaload, 1) := by decide +kernel
theorem dl_1038 : decode code 1038 = .ok (.invokevirtual 156, 3) := by decide +kernel
theorem dl_1041 : decode code 1041 = .ok (.if_icmp .eq 620, 3) := by decide +kernel
theorem dl_1044 : decode code 1044 = .ok (.iconst 0, 1) := by decide +kernel
theorem dl_1045 : decode code 1045 = .ok (.ireturn, 1) := by decide +kernel
theorem dl_1046 : decode code 1046 = .ok (.aload_n 1, 1) := by decide +kernel
theorem dl_1047 : decode code 1047 = .ok (.aload_n 0, 1) := by decide +kernel
theorem dl_1048 : decode code 1048 = .ok (.iload 4, 2) := by decide +kernel
theorem dl_1050 : decode code 1050 = .ok (.iconst 1, 1) := by decide +kernel
theorem dl_1051 : decode code 1051 = .ok (.iadd, 1) := by decide +kernel
theorem dl_1052 : decode code 1052 = .ok (.iaload, 1) := by decide +kernel
theorem dl_1053 : decode code 1053 = .ok (.invokevirtual 157, 3) := by decide +kernel
theorem dl_1056 : decode code 1056 = .ok (.aload_n 2, 1) := by decide +kernel
theorem dl_1057 : decode code 1057 = .ok (.aload_n 0, 1) := by decide +kernel
theorem dl_1058 : decode code 1058 = .ok (.iload 4, 2) := by decide +kernel
theorem dl_1060 : decode code 1060 = .ok (.iconst 1, 1) := by decide +kernel
theorem dl_1061 : decode code 1061 = .ok (.iadd, 1) := by decide +kernel
theorem dl_1062 : decode code 1062 = .ok (.iaload, 1) := by decide +kernel
theorem dl_1063 : decode code 1063 = .ok (.invokevirtual 160, 3) := by decide +kernel
theorem dl_1066 : decode code 1066 = .ok (.if_icmp .eq 595, 3) := by decide +kernel
theorem dl_1069 : decode code 1069 = .ok (.iconst 0, 1) := by decide +kernel
theorem dl_1070 : decode code 1070 = .ok (.ireturn, 1) := by decide +kernel
theorem dl_1071 : decode code 1071 = .ok (.aload_n 1, 1) := by decide +kernel
theorem dl_1072 : decode code 1072 = .ok (.invokevirtual 161, 3) := by decide +kernel
theorem dl_1075 : decode code 1075 = .ok (.aload_n 2, 1) := by decide +kernel
theorem dl_1076 : decode code 1076 = .ok (.invokevirtual 164, 3) := by decide +kernel
theorem dl_1079 : decode code 1079 = .ok (.if_icmp .eq 582, 3) := by decide +kernel
theorem dl_1082 : decode code 1082 = .ok (.iconst 0, 1) := by decide +kernel
theorem dl_1083 : decode code 1083 = .ok (.ireturn, 1) := by decide +kernel
theorem dl_1084 : decode code 1084 = .ok (.aload_n 1, 1) := by decide +kernel
theorem dl_1085 : decode code 1085 = .ok (.invokevirtual 165, 3) := by decide +kernel
theorem dl_1088 : decode code 1088 = .ok (.aload_n 2, 1) := by decide +kernel
theorem dl_1089 : decode code 1089 = .ok (.invokevirtual 168, 3) := by decide +kernel
theorem dl_1092 : decode code 1092 = .ok (.if_icmp .eq 569, 3) := by decide +kernel
theorem dl_1095 : decode code 1095 = .ok (.iconst 0, 1) := by decide +kernel
theorem dl_1096 : decode code 1096 = .ok (.ireturn, 1) := by decide +kernel
theorem dl_1097 : decode code 1097 = .ok (.aload_n 1, 1) := by decide +kernel
theorem dl_1098 : decode code 1098 = .ok (.aload_n 0, 1) := by decide +kernel
theorem dl_1099 : decode code 1099 = .ok (.iload 4, 2) := by decide +kernel
theorem dl_1101 : decode code 1101 = .ok (.iconst 1, 1) := by decide +kernel
theorem dl_1102 : decode code 1102 = .ok (.iadd, 1) := by decide +kernel
theorem dl_1103 : decode code 1103 = .ok (.iaload, 1) := by decide +kernel
theorem dl_1104 : decode code 1104 = .ok (.aload_n 0, 1) := by decide +kernel
theorem dl_1105 : decode code 1105 = .ok (.iload 4, 2) := by decide +kernel
theorem dl_1107 : decode code 1107 = .ok (.iconst 2, 1) := by decide +kernel
theorem dl_1108 : decode code 1108 = .ok (.iadd, 1) := by decide +kernel
theorem dl_1109 : decode code 1109 = .ok (.iaload, 1) := by decide +kernel
theorem dl_1110 : decode code 1110 = .ok (.aload_n 0, 1) := by decide +kernel
theorem dl_1111 : decode code 1111 = .ok (.iload 4, 2) := by decide +kernel
theorem dl_1113 : decode code 1113 = .ok (.iconst 3, 1) := by decide +kernel
theorem dl_1114 : decode code 1114 = .ok (.iadd, 1) := by decide +kernel
theorem dl_1115 : decode code 1115 = .ok (.iaload, 1) := by decide +kernel
theorem dl_1116 : decode code 1116 = .ok (.invokevirtual 169, 3) := by decide +kernel
theorem dl_1119 : decode code 1119 = .ok (.aload_n 2, 1) := by decide +kernel
theorem dl_1120 : decode code 1120 = .ok (.aload_n 0, 1) := by decide +kernel
theorem dl_1121 : decode code 1121 = .ok (.iload 4, 2) := by decide +kernel
theorem dl_1123 : decode code 1123 = .ok (.iconst 1, 1) := by decide +kernel
theorem dl_1124 : decode code 1124 = .ok (.iadd, 1) := by decide +kernel
theorem dl_1125 : decode code 1125 = .ok (.iaload, 1) := by decide +kernel
theorem dl_1126 : decode code 1126 = .ok (.aload_n 0, 1) := by decide +kernel
theorem dl_1127 : decode code 1127 = .ok (.iload 4, 2) := by decide +kernel
theorem dl_1129 : decode code 1129 = .ok (.iconst 2, 1) := by decide +kernel
theorem dl_1130 : decode code 1130 = .ok (.iadd, 1) := by decide +kernel
theorem dl_1131 : decode code 1131 = .ok (.iaload, 1) := by decide +kernel
theorem dl_1132 : decode code 1132 = .ok (.aload_n 0, 1) := by decide +kernel
theorem dl_1133 : decode code 1133 = .ok (.iload 4, 2) := by decide +kernel
theorem dl_1135 : decode code 1135 = .ok (.iconst 3, 1) := by decide +kernel
theorem dl_1136 : decode code 1136 = .ok (.iadd, 1) := by decide +kernel
theorem dl_1137 : decode code 1137 = .ok (.iaload, 1) := by decide +kernel
theorem dl_1138 : decode code 1138 = .ok (.invokevirtual 172, 3) := by decide +kernel
theorem dl_1141 : decode code 1141 = .ok (.if_icmp .eq 520, 3) := by decide +kernel
theorem dl_1144 : decode code 1144 = .ok (.iconst 0, 1) := by decide +kernel
theorem dl_1145 : decode code 1145 = .ok (.ireturn, 1) := by decide +kernel
theorem dl_1146 : decode code 1146 = .ok (.aload_n 1, 1) := by decide +kernel
theorem dl_1147 : decode code 1147 = .ok (.invokevirtual 173, 3) := by decide +kernel
theorem dl_1150 : decode code 1150 = .ok (.aload_n 2, 1) := by decide +kernel
theorem dl_1151 : decode code 1151 = .ok (.invokevirtual 176, 3) := by decide +kernel
theorem dl_1154 : decode code 1154 = .ok (.if_icmp .eq 507, 3) := by decide +kernel
theorem dl_1157 : decode code 1157 = .ok (.iconst 0, 1) := by decide +kernel
theorem dl_1158 : decode code 1158 = .ok (.ireturn, 1) := by decide +kernel
theorem dl_1159 : decode code 1159 = .ok (.aload_n 1, 1) := by decide +kernel
theorem dl_1160 : decode code 1160 = .ok (.aload_n 0, 1) := by decide +kernel
theorem dl_1161 : decode code 1161 = .ok (.iload 4, 2) := by decide +kernel
theorem dl_1163 : decode code 1163 = .ok (.iconst 1, 1) := by decide +kernel
theorem dl_1164 : decode code 1164 = .ok (.iadd, 1) := by decide +kernel
theorem dl_1165 : decode code 1165 = .ok (.iaload, 1) := by decide +kernel
theorem dl_1166 : decode code 1166 = .ok (.invokevirtual 177, 3) := by decide +kernel
theorem dl_1169 : decode code 1169 = .ok (.aload_n 2, 1) := by decide +kernel
theorem dl_1170 : decode code 1170 = .ok (.aload_n 0, 1) := by decide +kernel
theorem dl_1171 : decode code 1171 = .ok (.iload 4, 2) := by decide +kernel
theorem dl_1173 : decode code 1173 = .ok (.iconst 1, 1) := by decide +kernel
theorem dl_1174 : decode code 1174 = .ok (.iadd, 1) := by decide +kernel
theorem dl_1175 : decode code 1175 = .ok (.iaload, 1) := by decide +kernel
theorem dl_1176 : decode code 1176 = .ok (.invokevirtual 180, 3) := by decide +kernel
theorem dl_1179 : decode code 1179 = .ok (.if_icmp .eq 482, 3) := by decide +kernel
theorem dl_1182 : decode code 1182 = .ok (.iconst 0, 1) := by decide +kernel
theorem dl_1183 : decode code 1183 = .ok (.ireturn, 1) := by decide +kernel
theorem dl_1184 : decode code 1184 = .ok (.aload_n 1, 1) := by decide +kernel
theorem dl_1185 : decode code 1185 = .ok (.aload_n 0, 1) := by decide +kernel
theorem dl_1186 : decode code 1186 = .ok (.iload 4, 2) := by decide +kernel
theorem dl_1188 : decode code 1188 = .ok (.iconst 1, 1) := by decide +kernel
theorem dl_1189 : decode code 1189 = .ok (.iadd, 1) := by decide +kernel
theorem dl_1190 : decode code 1190 = .ok (.iaload, 1) := by decide +kernel
theorem dl_1191 : decode code 1191 = .ok (.invokevirtual 181, 3) := by decide +kernel
theorem dl_1194 : decode code 1194 = .ok (.aload_n 2, 1) := by decide +kernel
theorem dl_1195 : decode code 1195 = .ok (.aload_n 0, 1) := by decide +kernel
theorem dl_1196 : decode code 1196 = .ok (.iload 4, 2) := by decide +kernel
theorem dl_1198 : decode code 1198 = .ok (.iconst 1, 1) := by decide +kernel
theorem dl_1199 : decode code 1199 = .ok (.iadd, 1) := by decide +kernel
theorem dl_1200 : decode code 1200 = .ok (.iaload, 1) := by decide +kernel
theorem dl_1201 : decode code 1201 = .ok (.invokevirtual 184, 3) := by decide +kernel
theorem dl_1204 : decode code 1204 = .ok (.if_icmp .eq 457, 3) := by decide +kernel
theorem dl_1207 : decode code 1207 = .ok (.iconst 0, 1) := by decide +kernel
theorem dl_1208 : decode code 1208 = .ok (.ireturn, 1) := by decide +kernel
theorem dl_1209 : decode code 1209 = .ok (.aload_n 1, 1) := by decide +kernel
theorem dl_1210 : decode code 1210 = .ok (.aload_n 0, 1) := by decide +kernel
theorem dl_1211 : decode code 1211 = .ok (.iload 4, 2) := by decide +kernel
theorem dl_1213 : decode code 1213 = .ok (.iconst 1, 1) := by decide +kernel
theorem dl_1214 : decode code 1214 = .ok (.iadd, 1) := by decide +kernel
theorem dl_1215 : decode code 1215 = .ok (.iaload, 1) := by decide +kernel
theorem dl_1216 : decode code 1216 = .ok (.aload_n 0, 1) := by decide +kernel
theorem dl_1217 : decode code 1217 = .ok (.iload 4, 2) := by decide +kernel
theorem dl_1219 : decode code 1219 = .ok (.iconst 2, 1) := by decide +kernel
theorem dl_1220 : decode code 1220 = .ok (.iadd, 1) := by decide +kernel
theorem dl_1221 : decode code 1221 = .ok (.iaload, 1) := by decide +kernel
theorem dl_1222 : decode code 1222 = .ok (.invokevirtual 185, 3) := by decide +kernel
theorem dl_1225 : decode code 1225 = .ok (.aload_n 2, 1) := by decide +kernel
theorem dl_1226 : decode code 1226 = .ok (.aload_n 0, 1) := by decide +kernel
theorem dl_1227 : decode code 1227 = .ok (.iload 4, 2) := by decide +kernel
theorem dl_1229 : decode code 1229 = .ok (.iconst 1, 1) := by decide +kernel
theorem dl_1230 : decode code 1230 = .ok (.iadd, 1) := by decide +kernel
theorem dl_1231 : decode code 1231 = .ok (.iaload, 1) := by decide +kernel
theorem dl_1232 : decode code 1232 = .ok (.aload_n 0, 1) := by decide +kernel
theorem dl_1233 : decode code 1233 = .ok (.iload 4, 2) := by decide +kernel
theorem dl_1235 : decode code 1235 = .ok (.iconst 2, 1) := by decide +kernel
theorem dl_1236 : decode code 1236 = .ok (.iadd, 1) := by decide +kernel
theorem dl_1237 : decode code 1237 = .ok (.iaload, 1) := by decide +kernel
theorem dl_1238 : decode code 1238 = .ok (.invokevirtual 188, 3) := by decide +kernel
theorem dl_1241 : decode code 1241 = .ok (.if_icmp .eq 420, 3) := by decide +kernel
theorem dl_1244 : decode code 1244 = .ok (.iconst 0, 1) := by decide +kernel
theorem dl_1245 : decode code 1245 = .ok (.ireturn, 1) := by decide +kernel
theorem dl_1246 : decode code 1246 = .ok (.aload_n 1, 1) := by decide +kernel
theorem dl_1247 : decode code 1247 = .ok (.invokevirtual 189, 3) := by decide +kernel
theorem dl_1250 : decode code 1250 = .ok (.aload_n 2, 1) := by decide +kernel
theorem dl_1251 : decode code 1251 = .ok (.invokevirtual 192, 3) := by decide +kernel
theorem dl_1254 : decode code 1254 = .ok (.if_icmp .eq 407, 3) := by decide +kernel
theorem dl_1257 : decode code 1257 = .ok (.iconst 0, 1) := by decide +kernel
theorem dl_1258 : decode code 1258 = .ok (.ireturn, 1) := by decide +kernel
theorem dl_1259 : decode code 1259 = .ok (.aload_n 1, 1) := by decide +kernel
theorem dl_1260 : decode code 1260 = .ok (.invokevirtual 193, 3) := by decide +kernel
theorem dl_1263 : decode code 1263 = .ok (.aload_n 2, 1) := by decide +kernel
theorem dl_1264 : decode code 1264 = .ok (.invokevirtual 196, 3) := by decide +kernel
theorem dl_1267 : decode code 1267 = .ok (.if_icmp .eq 394, 3) := by decide +kernel
theorem dl_1270 : decode code 1270 = .ok (.iconst 0, 1) := by decide +kernel
theorem dl_1271 : decode code 1271 = .ok (.ireturn, 1) := by decide +kernel
theorem dl_1272 : decode code 1272 = .ok (.aload_n 1, 1) := by decide +kernel
theorem dl_1273 : decode code 1273 = .ok (.invokevirtual 197, 3) := by decide +kernel
theorem dl_1276 : decode code 1276 = .ok (.aload_n 2, 1) := by decide +kernel
theorem dl_1277 : decode code 1277 = .ok (.invokevirtual 200, 3) := by decide +kernel
theorem dl_1280 : decode code 1280 = .ok (.if_icmp .eq 381, 3) := by decide +kernel
theorem dl_1283 : decode code 1283 = .ok (.iconst 0, 1) := by decide +kernel
theorem dl_1284 : decode code 1284 = .ok (.ireturn, 1) := by decide +kernel
theorem dl_1285 : decode code 1285 = .ok (.aload_n 1, 1) := by decide +kernel
theorem dl_1286 : decode code 1286 = .ok (.aload_n 0, 1) := by decide +kernel
theorem dl_1287 : decode code 1287 = .ok (.iload 4, 2) := by decide +kernel
theorem dl_1289 : decode code 1289 = .ok (.iconst 1, 1) := by decide +kernel
theorem dl_1290 : decode code 1290 = .ok (.iadd, 1) := by decide +kernel
theorem dl_1291 : decode code 1291 = .ok (.iaload, 1) := by decide +kernel
theorem dl_1292 : decode code 1292 = .ok (.aload_n 0, 1) := by decide +kernel
theorem dl_1293 : decode code 1293 = .ok (.iload 4, 2) := by decide +kernel
theorem dl_1295 : decode code 1295 = .ok (.iconst 2, 1) := by decide +kernel
theorem dl_1296 : decode code 1296 = .ok (.iadd, 1) := by decide +kernel
theorem dl_1297 : decode code 1297 = .ok (.iaload, 1) := by decide +kernel
theorem dl_1298 : decode code 1298 = .ok (.aload_n 0, 1) := by decide +kernel
theorem dl_1299 : decode code 1299 = .ok (.iload 4, 2) := by decide +kernel
theorem dl_1301 : decode code 1301 = .ok (.iconst 3, 1) := by decide +kernel
theorem dl_1302 : decode code 1302 = .ok (.iadd, 1) := by decide +kernel
theorem dl_1303 : decode code 1303 = .ok (.iaload, 1) := by decide +kernel
theorem dl_1304 : decode code 1304 = .ok (.aload_n 0, 1) := by decide +kernel
theorem dl_1305 : decode code 1305 = .ok (.iload 4, 2) := by decide +kernel
theorem dl_1307 : decode code 1307 = .ok (.iconst 4, 1) := by decide +kernel
theorem dl_1308 : decode code 1308 = .ok (.iadd, 1) := by decide +kernel
theorem dl_1309 : decode code 1309 = .ok (.iaload, 1) := by decide +kernel
theorem dl_1310 : decode code 1310 = .ok (.invokevirtual 201, 3) := by decide +kernel
theorem dl_1313 : decode code 1313 = .ok (.aload_n 2, 1) := by decide +kernel
theorem dl_1314 : decode code 1314 = .ok (.aload_n 0, 1) := by decide +kernel
theorem dl_1315 : decode code 1315 = .ok (.iload 4, 2) := by decide +kernel
theorem dl_1317 : decode code 1317 = .ok (.iconst 1, 1) := by decide +kernel
theorem dl_1318 : decode code 1318 = .ok (.iadd, 1) := by decide +kernel
theorem dl_1319 : decode code 1319 = .ok (.iaload, 1) := by decide +kernel
theorem dl_1320 : decode code 1320 = .ok (.aload_n 0, 1) := by decide +kernel
theorem dl_1321 : decode code 1321 = .ok (.iload 4, 2) := by decide +kernel
theorem dl_1323 : decode code 1323 = .ok (.iconst 2, 1) := by decide +kernel
theorem dl_1324 : decode code 1324 = .ok (.iadd, 1) := by decide +kernel
theorem dl_1325 : decode code 1325 = .ok (.iaload, 1) := by decide +kernel
theorem dl_1326 : decode code 1326 = .ok (.aload_n 0, 1) := by decide +kernel
theorem dl_1327 : decode code 1327 = .ok (.iload 4, 2) := by decide +kernel
theorem dl_1329 : decode code 1329 = .ok (.iconst 3, 1) := by decide +kernel
theorem dl_1330 : decode code 1330 = .ok (.iadd, 1) := by decide +kernel
theorem dl_1331 : decode code 1331 = .ok (.iaload, 1) := by decide +kernel
theorem dl_1332 : decode code 1332 = .ok (.aload_n 0, 1) := by decide +kernel
theorem dl_1333 : decode code 1333 = .ok (.iload 4, 2) := by decide +kernel
theorem dl_1335 : decode code 1335 = .ok (.iconst 4, 1) := by decide +kernel
theorem dl_1336 : decode code 1336 = .ok (.iadd, 1) := by decide +kernel
theorem dl_1337 : decode code 1337 = .ok (.iaload, 1) := by decide +kernel
theorem dl_1338 : decode code 1338 = .ok (.invokevirtual 204, 3) := by decide +kernel
theorem dl_1341 : decode code 1341 = .ok (.if_icmp .eq 320, 3) := by decide +kernel
theorem dl_1344 : decode code 1344 = .ok (.iconst 0, 1) := by decide +kernel
theorem dl_1345 : decode code 1345 = .ok (.ireturn, 1) := by decide +kernel
theorem dl_1346 : decode code 1346 = .ok (.aload_n 1, 1) := by decide +kernel
theorem dl_1347 : decode code 1347 = .ok (.aload_n 0, 1) := by decide +kernel
theorem dl_1348 : decode code 1348 = .ok (.iload 4, 2) := by decide +kernel
theorem dl_1350 : decode code 1350 = .ok (.iconst 1, 1) := by decide +kernel
theorem dl_1351 : decode code 1351 = .ok (.iadd, 1) := by decide +kernel
theorem dl_1352 : decode code 1352 = .ok (.iaload, 1) := by decide +kernel
theorem dl_1353 : decode code 1353 = .ok (.aload_n 0, 1) := by decide +kernel
theorem dl_1354 : decode code 1354 = .ok (.iload 4, 2) := by decide +kernel
theorem dl_1356 : decode code 1356 = .ok (.iconst 2, 1) := by decide +kernel
theorem dl_1357 : decode code 1357 = .ok (.iadd, 1) := by decide +kernel
theorem dl_1358 : decode code 1358 = .ok (.iaload, 1) := by decide +kernel
theorem dl_1359 : decode code 1359 = .ok (.aload_n 0, 1) := by decide +kernel
theorem dl_1360 : decode code 1360 = .ok (.iload 4, 2) := by decide +kernel
theorem dl_1362 : decode code 1362 = .ok (.iconst 3, 1) := by decide +kernel
theorem dl_1363 : decode code 1363 = .ok (.iadd, 1) := by decide +kernel
theorem dl_1364 : decode code 1364 = .ok (.iaload, 1) := by decide +kernel
theorem dl_1365 : decode code 1365 = .ok (.aload_n 0, 1) := by decide +kernel
theorem dl_1366 : decode code 1366 = .ok (.iload 4, 2) := by decide +kernel
theorem dl_1368 : decode code 1368 = .ok (.iconst 4, 1) := by decide +kernel
theorem dl_1369 : decode code 1369 = .ok (.iadd, 1) := by decide +kernel
theorem dl_1370 : decode code 1370 = .ok (.iaload, 1) := by decide +kernel
theorem dl_1371 : decode code 1371 = .ok (.aload_n 0, 1) := by decide +kernel
theorem dl_1372 : decode code 1372 = .ok (.iload 4, 2) := by decide +kernel
theorem dl_1374 : decode code 1374 = .ok (.iconst 5, 1) := by decide +kernel
theorem dl_1375 : decode code 1375 = .ok (.iadd, 1) := by decide +kernel
theorem dl_1376 : decode code 1376 = .ok (.iaload, 1) := by decide +kernel
theorem dl_1377 : decode code 1377 = .ok (.invokevirtual 205, 3) := by decide +kernel
theorem dl_1380 : decode code 1380 = .ok (.aload_n 2, 1) := by decide +kernel
theorem dl_1381 : decode code 1381 = .ok (.aload_n 0, 1) := by decide +kernel
theorem dl_1382 : decode code 1382 = .ok (.iload 4, 2) := by decide +kernel
theorem dl_1384 : decode code 1384 = .ok (.iconst 1, 1) := by decide +kernel
theorem dl_1385 : decode code 1385 = .ok (.iadd, 1) := by decide +kernel
theorem dl_1386 : decode code 1386 = .ok (.iaload, 1) := by decide +kernel
theorem dl_1387 : decode code 1387 = .ok (.aload_n 0, 1) := by decide +kernel
theorem dl_1388 : decode code 1388 = .ok (.iload 4, 2) := by decide +kernel
theorem dl_1390 : decode code 1390 = .ok (.iconst 2, 1) := by decide +kernel
theorem dl_1391 : decode code 1391 = .ok (.iadd, 1) := by decide +kernel
theorem dl_1392 : decode code 1392 = .ok (.iaload, 1) := by decide +kernel
theorem dl_1393 : decode code 1393 = .ok (.aload_n 0, 1) := by decide +kernel
theorem dl_1394 : decode code 1394 = .ok (.iload 4, 2) := by decide +kernel
theorem dl_1396 : decode code 1396 = .ok (.iconst 3, 1) := by decide +kernel
theorem dl_1397 : decode code 1397 = .ok (.iadd, 1) := by decide +kernel
theorem dl_1398 : decode code 1398 = .ok (.iaload, 1) := by decide +kernel
theorem dl_1399 : decode code 1399 = .ok (.aload_n 0, 1) := by decide +kernel
theorem dl_1400 : decode code 1400 = .ok (.iload 4, 2) := by decide +kernel
theorem dl_1402 : decode code 1402 = .ok (.iconst 4, 1) := by decide +kernel
theorem dl_1403 : decode code 1403 = .ok (.iadd, 1) := by decide +kernel
theorem dl_1404 : decode code 1404 = .ok (.iaload, 1) := by decide +kernel
theorem dl_1405 : decode code 1405 = .ok (.aload_n 0, 1) := by decide +kernel
theorem dl_1406 : decode code 1406 = .ok (.iload 4, 2) := by decide +kernel
theorem dl_1408 : decode code 1408 = .ok (.iconst 5, 1) := by decide +kernel
theorem dl_1409 : decode code 1409 = .ok (.iadd, 1) := by decide +kernel
theorem dl_1410 : decode code 1410 = .ok (.iaload, 1) := by decide +kernel
theorem dl_1411 : decode code 1411 = .ok (.invokevirtual 209, 3) := by decide +kernel
theorem dl_1414 : decode code 1414 = .ok (.if_icmp .eq 247, 3) := by decide +kernel
theorem dl_1417 : decode code 1417 = .ok (.iconst 0, 1) := by decide +kernel
theorem dl_1418 : decode code 1418 = .ok (.ireturn, 1) := by decide +kernel
theorem dl_1419 : decode code 1419 = .ok (.aload_n 1, 1) := by decide +kernel
theorem dl_1420 : decode code 1420 = .ok (.aload_n 0, 1) := by decide +kernel
theorem dl_1421 : decode code 1421 = .ok (.iload 4, 2) := by decide +kernel
theorem dl_1423 : decode code 1423 = .ok (.iconst 1, 1) := by decide +kernel
theorem dl_1424 : decode code 1424 = .ok (.iadd, 1) := by decide +kernel
theorem dl_1425 : decode code 1425 = .ok (.iaload, 1) := by decide +kernel
theorem dl_1426 : decode code 1426 = .ok (.aload_n 0, 1) := by decide +kernel
theorem dl_1427 : decode code 1427 = .ok (.iload 4, 2) := by decide +kernel
theorem dl_1429 : decode code 1429 = .ok (.iconst 2, 1) := by decide +kernel
theorem dl_1430 : decode code 1430 = .ok (.iadd, 1) := by decide +kernel
theorem dl_1431 : decode code 1431 = .ok (.iaload, 1) := by decide +kernel
theorem dl_1432 : decode code 1432 = .ok (.invokevirtual 210, 3) := by decide +kernel
theorem dl_1435 : decode code 1435 = .ok (.aload_n 2, 1) := by decide +kernel
theorem dl_1436 : decode code 1436 = .ok (.aload_n 0, 1) := by decide +kernel
theorem dl_1437 : decode code 1437 = .ok (.iload 4, 2) := by decide +kernel
theorem dl_1439 : decode code 1439 = .ok (.iconst 1, 1) := by decide +kernel
theorem dl_1440 : decode code 1440 = .ok (.iadd, 1) := by decide +kernel
theorem dl_1441 : decode code 1441 = .ok (.iaload, 1) := by decide +kernel
theorem dl_1442 : decode code 1442 = .ok (.aload_n 0, 1) := by decide +kernel
theorem dl_1443 : decode code 1443 = .ok (.iload 4, 2) := by decide +kernel
theorem dl_1445 : decode code 1445 = .ok (.iconst 2, 1) := by decide +kernel
theorem dl_1446 : decode code 1446 = .ok (.iadd, 1) := by decide +kernel
theorem dl_1447 : decode code 1447 = .ok (.iaload, 1) := by decide +kernel
theorem dl_1448 : decode code 1448 = .ok (.invokevirtual 213, 3) := by decide +kernel
theorem dl_1451 : decode code 1451 = .ok (.if_icmp .eq 210, 3) := by decide +kernel
theorem dl_1454 : decode code 1454 = .ok (.iconst 0, 1) := by decide +kernel
theorem dl_1455 : decode code 1455 = .ok (.ireturn, 1) := by decide +kernel
theorem dl_1456 : decode code 1456 = .ok (.aload_n 1, 1) := by decide +kernel
theorem dl_1457 : decode code 1457 = .ok (.invokevirtual 214, 3) := by decide +kernel
theorem dl_1460 : decode code 1460 = .ok (.aload_n 2, 1) := by decide +kernel
theorem dl_1461 : decode code 1461 = .ok (.invokevirtual 217, 3) := by decide +kernel
theorem dl_1464 : decode code 1464 = .ok (.if_icmp .eq 197, 3) := by decide +kernel
theorem dl_1467 : decode code 1467 = .ok (.iconst 0, 1) := by decide +kernel
theorem dl_1468 : decode code 1468 = .ok (.ireturn, 1) := by decide +kernel
theorem dl_1469 : decode code 1469 = .ok (.aload_n 1, 1) := by decide +kernel
theorem dl_1470 : decode code 1470 = .ok (.aload_n 0, 1) := by decide +kernel
theorem dl_1471 : decode code 1471 = .ok (.iload 4, 2) := by decide +kernel
theorem dl_1473 : decode code 1473 = .ok (.iconst 1, 1) := by decide +kernel
theorem dl_1474 : decode code 1474 = .ok (.iadd, 1) := by decide +kernel
theorem dl_1475 : decode code 1475 = .ok (.iaload, 1) := by decide +kernel
theorem dl_1476 : decode code 1476 = .ok (.invokevirtual 218, 3) := by decide +kernel
theorem dl_1479 : decode code 1479 = .ok (.aload_n 2, 1) := by decide +kernel
theorem dl_1480 : decode code 1480 = .ok (.aload_n 0, 1) := by decide +kernel
theorem dl_1481 : decode code 1481 = .ok (.iload 4, 2) := by decide +kernel
theorem dl_1483 : decode code 1483 = .ok (.iconst 1, 1) := by decide +kernel
theorem dl_1484 : decode code 1484 = .ok (.iadd, 1) := by decide +kernel
theorem dl_1485 : decode code 1485 = .ok (.iaload, 1) := by decide +kernel
theorem dl_1486 : decode code 1486 = .ok (.invokevirtual 221, 3) := by decide +kernel
theorem dl_1489 : decode code 1489 = .ok (.if_icmp .eq 172, 3) := by decide +kernel
theorem dl_1492 : decode code 1492 = .ok (.iconst 0, 1) := by decide +kernel
theorem dl_1493 : decode code 1493 = .ok (.ireturn, 1) := by decide +kernel
theorem dl_1494 : decode code 1494 = .ok (.aload_n 1, 1) := by decide +kernel
theorem dl_1495 : decode code 1495 = .ok (.aload_n 0, 1) := by decide +kernel
theorem dl_1496 : decode code 1496 = .ok (.iload 4, 2) := by decide +kernel
theorem dl_1498 : decode code 1498 = .ok (.iconst 1, 1) := by decide +kernel
theorem dl_1499 : decode code 1499 = .ok (.iadd, 1) := by decide +kernel
theorem dl_1500 : decode code 1500 = .ok (.iaload, 1) := by decide +kernel
theorem dl_1501 : decode code 1501 = .ok (.aload_n 0, 1) := by decide +kernel
theorem dl_1502 : decode code 1502 = .ok (.iload 4, 2) := by decide +kernel
theorem dl_1504 : decode code 1504 = .ok (.iconst 2, 1) := by decide +kernel
theorem dl_1505 : decode code 1505 = .ok (.iadd, 1) := by decide +kernel
theorem dl_1506 : decode code 1506 = .ok (.iaload, 1) := by decide +kernel
theorem dl_1507 : decode code 1507 = .ok (.invokevirtual 222, 3) := by decide +kernel
theorem dl_1510 : decode code 1510 = .ok (.aload_n 2, 1) := by decide +kernel
theorem dl_1511 : decode code 1511 = .ok (.aload_n 0, 1) := by decide +kernel
theorem dl_1512 : decode code 1512 = .ok (.iload 4, 2) := by decide +kernel
theorem dl_1514 : decode code 1514 = .ok (.iconst 1, 1) := by decide +kernel
theorem dl_1515 : decode code 1515 = .ok (.iadd, 1) := by decide +kernel
theorem dl_1516 : decode code 1516 = .ok (.iaload, 1) := by decide +kernel
theorem dl_1517 : decode code 1517 = .ok (.aload_n 0, 1) := by decide +kernel
theorem dl_1518 : decode code 1518 = .ok (.iload 4, 2) := by decide +kernel
theorem dl_1520 : decode code 1520 = .ok (.iconst 2, 1) := by decide +kernel
theorem dl_1521 : decode code 1521 = .ok (.iadd, 1) := by decide +kernel
theorem dl_1522 : decode code 1522 = .ok (.iaload, 1) := by decide +kernel
theorem dl_1523 : decode code 1523 = .ok (.invokevirtual 225, 3) := by decide +kernel
theorem dl_1526 : decode code 1526 = .ok (.if_icmp .eq 135, 3) := by decide +kernel
theorem dl_1529 : decode code 1529 = .ok (.iconst 0, 1) := by decide +kernel
theorem dl_1530 : decode code 1530 = .ok (.ireturn, 1) := by decide +kernel
theorem dl_1531 : decode code 1531 = .ok (.aload_n 1, 1) := by decide +kernel
theorem dl_1532 : decode code 1532 = .ok (.aload_n 0, 1) := by decide +kernel
theorem dl_1533 : decode code 1533 = .ok (.iload 4, 2) := by decide +kernel
theorem dl_1535 : decode code 1535 = .ok (.iconst 1, 1) := by decide +kernel
theorem dl_1536 : decode code 1536 = .ok (.iadd, 1) := by decide +kernel
theorem dl_1537 : decode code 1537 = .ok (.iaload, 1) := by decide +kernel
theorem dl_1538 : decode code 1538 = .ok (.invokevirtual 226, 3) := by decide +kernel
theorem dl_1541 : decode code 1541 = .ok (.aload_n 2, 1) := by decide +kernel
theorem dl_1542 : decode code 1542 = .ok (.aload_n 0, 1) := by decide +kernel
theorem dl_1543 : decode code 1543 = .ok (.iload 4, 2) := by decide +kernel
theorem dl_1545 : decode code 1545 = .ok (.iconst 1, 1) := by decide +kernel
theorem dl_1546 : decode code 1546 = .ok (.iadd, 1) := by decide +kernel
theorem dl_1547 : decode code 1547 = .ok (.iaload, 1) := by decide +kernel
theorem dl_1548 : decode code 1548 = .ok (.invokevirtual 229, 3) := by decide +kernel
theorem dl_1551 : decode code 1551 = .ok (.if_icmp .eq 110, 3) := by decide +kernel
theorem dl_1554 : decode code 1554 = .ok (.iconst 0, 1) := by decide +kernel
theorem dl_1555 : decode code 1555 = .ok (.ireturn, 1) := by decide +kernel
theorem dl_1556 : decode code 1556 = .ok (.aload_n 1, 1) := by decide +kernel
theorem dl_1557 : decode code 1557 = .ok (.aload_n 0, 1) := by decide +kernel
theorem dl_1558 : decode code 1558 = .ok (.iload 4, 2) := by decide +kernel
theorem dl_1560 : decode code 1560 = .ok (.iconst 1, 1) := by decide +kernel
theorem dl_1561 : decode code 1561 = .ok (.iadd, 1) := by decide +kernel
theorem dl_1562 : decode code 1562 = .ok (.iaload, 1) := by decide +kernel
theorem dl_1563 : decode code 1563 = .ok (.invokevirtual 230, 3) := by decide +kernel
theorem dl_1566 : decode code 1566 = .ok (.aload_n 2, 1) := by decide +kernel
theorem dl_1567 : decode code 1567 = .ok (.aload_n 0, 1) := by decide +kernel
theorem dl_1568 : decode code 1568 = .ok (.iload 4, 2) := by decide +kernel
theorem dl_1570 : decode code 1570 = .ok (.iconst 1, 1) := by decide +kernel
theorem dl_1571 : decode code 1571 = .ok (.iadd, 1) := by decide +kernel
theorem dl_1572 : decode code 1572 = .ok (.iaload, 1) := by decide +kernel
theorem dl_1573 : decode code 1573 = .ok (.invokevirtual 233, 3) := by decide +kernel
theorem dl_1576 : decode code 1576 = .ok (.if_icmp .eq 85, 3) := by decide +kernel
theorem dl_1579 : decode code 1579 = .ok (.iconst 0, 1) := by decide +kernel
theorem dl_1580 : decode code 1580 = .ok (.ireturn, 1) := by decide +kernel
theorem dl_1581 : decode code 1581 = .ok (.aload_n 1, 1) := by decide +kernel
theorem dl_1582 : decode code 1582 = .ok (.aload_n 0, 1) := by decide +kernel
theorem dl_1583 : decode code 1583 = .ok (.iload 4, 2) := by decide +kernel
theorem dl_1585 : decode code 1585 = .ok (.iconst 1, 1) := by decide +kernel
theorem dl_1586 : decode code 1586 = .ok (.iadd, 1) := by decide +kernel
theorem dl_1587 : decode code 1587 = .ok (.iaload, 1) := by decide +kernel
theorem dl_1588 : decode code 1588 = .ok (.invokevirtual 234, 3) := by decide +kernel
theorem dl_1591 : decode code 1591 = .ok (.aload_n 2, 1) := by decide +kernel
theorem dl_1592 : decode code 1592 = .ok (.aload_n 0, 1) := by decide +kernel
theorem dl_1593 : decode code 1593 = .ok (.iload 4, 2) := by decide +kernel
theorem dl_1595 : decode code 1595 = .ok (.iconst 1, 1) := by decide +kernel
theorem dl_1596 : decode code 1596 = .ok (.iadd, 1) := by decide +kernel
theorem dl_1597 : decode code 1597 = .ok (.iaload, 1) := by decide +kernel
theorem dl_1598 : decode code 1598 = .ok (.invokevirtual 237, 3) := by decide +kernel
theorem dl_1601 : decode code 1601 = .ok (.if_icmp .eq 60, 3) := by decide +kernel
theorem dl_1604 : decode code 1604 = .ok (.iconst 0, 1) := by decide +kernel
theorem dl_1605 : decode code 1605 = .ok (.ireturn, 1) := by decide +kernel
theorem dl_1606 : decode code 1606 = .ok (.aload_n 1, 1) := by decide +kernel
theorem dl_1607 : decode code 1607 = .ok (.aload_n 0, 1) := by decide +kernel
theorem dl_1608 : decode code 1608 = .ok (.iload 4, 2) := by decide +kernel
theorem dl_1610 : decode code 1610 = .ok (.iconst 1, 1) := by decide +kernel
theorem dl_1611 : decode code 1611 = .ok (.iadd, 1) := by decide +kernel
theorem dl_1612 : decode code 1612 = .ok (.iaload, 1) := by decide +kernel
theorem dl_1613 : decode code 1613 = .ok (.aload_n 3, 1) := by decide +kernel
theorem dl_1614 : decode code 1614 = .ok (.invokestatic 238, 3) := by decide +kernel
theorem dl_1617 : decode code 1617 = .ok (.istore 5, 2) := by decide +kernel
theorem dl_1619 : decode code 1619 = .ok (.aload_n 2, 1) := by decide +kernel
theorem dl_1620 : decode code 1620 = .ok (.aload_n 0, 1) := by decide +kernel
theorem dl_1621 : decode code 1621 = .ok (.iload 4, 2) := by decide +kernel
theorem dl_1623 : decode code 1623 = .ok (.iconst 1, 1) := by decide +kernel
theorem dl_1624 : decode code 1624 = .ok (.iadd, 1) := by decide +kernel
theorem dl_1625 : decode code 1625 = .ok (.iaload, 1) := by decide +kernel
theorem dl_1626 : decode code 1626 = .ok (.invokevirtual 241, 3) := by decide +kernel
theorem dl_1629 : decode code 1629 = .ok (.lstore 6, 2) := by decide +kernel
theorem dl_1631 : decode code 1631 = .ok (.aload_n 2, 1) := by decide +kernel
theorem dl_1632 : decode code 1632 = .ok (.invokevirtual 48, 3) := by decide +kernel
theorem dl_1635 : decode code 1635 = .ok (.iload 5, 2) := by decide +kernel
theorem dl_1637 : decode code 1637 = .ok (.if_icmp .eq 5, 3) := by decide +kernel
theorem dl_1640 : decode code 1640 = .ok (.iconst 0, 1) := by decide +kernel
theorem dl_1641 : decode code 1641 = .ok (.ireturn, 1) := by decide +kernel
theorem dl_1642 : decode code 1642 = .ok (.iload 5, 2) := by decide +kernel
theorem dl_1644 : decode code 1644 = .ok (.ifCond .ne 14, 3) := by decide +kernel
theorem dl_1647 : decode code 1647 = .ok (.aload_n 3, 1) := by decide +kernel
theorem dl_1648 : decode code 1648 = .ok (.iconst 0, 1) := by decide +kernel
theorem dl_1649 : decode code 1649 = .ok (.laload, 1) := by decide +kernel
theorem dl_1650 : decode code 1650 = .ok (.lload 6, 2) := by decide +kernel
theorem dl_1652 : decode code 1652 = .ok (.lcmp, 1) := by decide +kernel
theorem dl_1653 : decode code 1653 = .ok (.ifCond .eq 5, 3) := by decide +kernel
theorem dl_1656 : decode code 1656 = .ok (.iconst 0, 1) := by decide +kernel
theorem dl_1657 : decode code 1657 = .ok (.ireturn, 1) := by decide +kernel
theorem dl_1658 : decode code 1658 = .ok (.goto 3, 3) := by decide +kernel
theorem dl_1661 : decode code 1661 = .ok (.iinc 4 6, 3) := by decide +kernel
theorem dl_1664 : decode code 1664 = .ok (.goto (-1641), 3) := by decide +kernel
theorem dl_1667 : decode code 1667 = .ok (.iconst 1, 1) := by decide +kernel
theorem dl_1668 : decode code 1668 = .ok (.ireturn, 1) := by decide +kernel
theorem l_cmp (x : Int64) : lg_cmp x x = 0 := by
  unfold lg_cmp
  simp
def ok_0 (Rel : St → St → Prop) : Prop := ∀ (χ σ : St) (a1 : Int32), Rel χ σ → ∃ (v : Int32) (χ1 : St) (σ1 : St), f_X11_sign χ a1 = some (v, χ1) ∧ f_X12_sign σ a1 = some (v, σ1) ∧ Rel χ1 σ1
def ok_1 (Rel : St → St → Prop) : Prop := ∀ (χ σ : St) (a1 : Int32), Rel χ σ → ∃ (v : Int32) (χ1 : St) (σ1 : St), f_X11_end χ a1 = some (v, χ1) ∧ f_X12_end σ a1 = some (v, σ1) ∧ Rel χ1 σ1
def ok_2 (Rel : St → St → Prop) : Prop := ∀ (χ σ : St), Rel χ σ → ∃ (v : Int32) (χ1 : St) (σ1 : St), f_X11_oysters χ = some (v, χ1) ∧ f_X12_oysters σ = some (v, σ1) ∧ Rel χ1 σ1
def ok_3 (Rel : St → St → Prop) : Prop := ∀ (χ σ : St), Rel χ σ → ∃ (v : Int32) (χ1 : St) (σ1 : St), f_X11_rule χ = some (v, χ1) ∧ f_X12_rule σ = some (v, σ1) ∧ Rel χ1 σ1
def ok_4 (Rel : St → St → Prop) : Prop := ∀ (χ σ : St) (a1 a2 : Int32), Rel χ σ → ∃ (q : Option Int32) (v : Int32) (σ1 : St), f_X11_oyster χ a1 a2 = some q ∧ f_X12_oyster σ a1 a2 = some (v, σ1) ∧ f_X12_thrown σ1 = some (if q.isSome then 0 else 1) ∧ (∀ u, q = some u → u = v) ∧ Rel χ σ1
def ok_5 (Rel : St → St → Prop) : Prop := ∀ (χ σ : St) (a1 a2 a3 a4 : Int32), Rel χ σ → ∃ (v : Int32) (χ1 : St) (σ1 : St), f_X11_sheet χ a1 a2 a3 a4 = some (v, χ1) ∧ f_X12_sheet σ a1 a2 a3 a4 = some (v, σ1) ∧ Rel χ1 σ1
def ok_6 (Rel : St → St → Prop) : Prop := ∀ (χ σ : St) (a1 a2 : Int32), Rel χ σ → ∃ (v : Int32) (χ1 : St) (σ1 : St), f_X11_puts χ a1 a2 = some (v, χ1) ∧ f_X12_puts σ a1 a2 = some (v, σ1) ∧ Rel χ1 σ1
def ok_7 (Rel : St → St → Prop) : Prop := ∀ (χ σ : St) (a1 : Int32), Rel χ σ → ∃ (v : Int32) (χ1 : St) (σ1 : St), f_X11_tides χ a1 = some (v, χ1) ∧ f_X12_tides σ a1 = some (v, σ1) ∧ Rel χ1 σ1
def ok_8 (Rel : St → St → Prop) : Prop := ∀ (χ σ : St) (a1 a2 : Int32), Rel χ σ → ∃ (v : Int32) (χ1 : St) (σ1 : St), f_X11_stills χ a1 a2 = some (v, χ1) ∧ f_X12_stills σ a1 a2 = some (v, σ1) ∧ Rel χ1 σ1
def ok_9 (Rel : St → St → Prop) : Prop := ∀ (χ σ : St) (a1 a2 : Int32), Rel χ σ → ∃ (v : Int32) (χ1 : St) (σ1 : St), f_X11_holds χ a1 a2 = some (v, χ1) ∧ f_X12_holds σ a1 a2 = some (v, σ1) ∧ Rel χ1 σ1
def ok_10 (Rel : St → St → Prop) : Prop := ∀ (χ σ : St) (a1 : Int32), Rel χ σ → ∃ (v : Int32) (χ1 : St) (σ1 : St), f_X11_knife χ a1 = some (v, χ1) ∧ f_X12_knife σ a1 = some (v, σ1) ∧ Rel χ1 σ1
def ok_11 (Rel : St → St → Prop) : Prop := ∀ (χ σ : St), Rel χ σ → ∃ (v : Int32) (χ1 : St) (σ1 : St), f_X11_season χ = some (v, χ1) ∧ f_X12_season σ = some (v, σ1) ∧ Rel χ1 σ1
def ok_12 (Rel : St → St → Prop) : Prop := ∀ (χ σ : St), Rel χ σ → ∃ (v : Int32) (χ1 : St) (σ1 : St), f_X11_undo χ = some (v, χ1) ∧ f_X12_undo σ = some (v, σ1) ∧ Rel χ1 σ1
def ok_13 (Rel : St → St → Prop) : Prop := ∀ (χ σ : St) (a1 a2 : Int32), Rel χ σ → ∃ (v : Int32) (χ1 : St) (σ1 : St), f_X11_would χ a1 a2 = some (v, χ1) ∧ f_X12_would σ a1 a2 = some (v, σ1) ∧ Rel χ1 σ1
def ok_14 (Rel : St → St → Prop) : Prop := ∀ (χ σ : St) (a1 a2 : Int32), Rel χ σ → ∃ (v : Int32) (χ1 : St) (σ1 : St), f_X11_words χ a1 a2 = some (v, χ1) ∧ f_X12_words σ a1 a2 = some (v, σ1) ∧ Rel χ1 σ1
def ok_15 (Rel : St → St → Prop) : Prop := ∀ (χ σ : St), Rel χ σ → ∃ (v : Int32) (χ1 : St) (σ1 : St), f_X11_honest χ = some (v, χ1) ∧ f_X12_honest σ = some (v, σ1) ∧ Rel χ1 σ1
def ok_16 (Rel : St → St → Prop) : Prop := ∀ (χ σ : St) (a1 a2 : Int32), Rel χ σ → ∃ (v : Int32) (χ1 : St) (σ1 : St), f_X11_shyest χ a1 a2 = some (v, χ1) ∧ f_X12_shyest σ a1 a2 = some (v, σ1) ∧ Rel χ1 σ1
def ok_17 (Rel : St → St → Prop) : Prop := ∀ (χ σ : St), Rel χ σ → ∃ (v : Int32) (χ1 : St) (σ1 : St), f_X11_loudest χ = some (v, χ1) ∧ f_X12_loudest σ = some (v, σ1) ∧ Rel χ1 σ1
def ok_18 (Rel : St → St → Prop) : Prop := ∀ (χ σ : St) (a1 a2 a3 : Int32), Rel χ σ → ∃ (v : Int32) (χ1 : St) (σ1 : St), f_X11_repeats χ a1 a2 a3 = some (v, χ1) ∧ f_X12_repeats σ a1 a2 a3 = some (v, σ1) ∧ Rel χ1 σ1
def ok_19 (Rel : St → St → Prop) : Prop := ∀ (χ σ : St) (a1 : Int32), Rel χ σ → ∃ (v : Int32) (χ1 : St) (σ1 : St), f_X11_later χ a1 = some (v, χ1) ∧ f_X12_later σ a1 = some (v, σ1) ∧ Rel χ1 σ1
def ok_20 (Rel : St → St → Prop) : Prop := ∀ (χ σ : St), Rel χ σ → ∃ (v : Int32) (σ1 : St), f_X11_calm χ = some v ∧ f_X12_calm σ = some (v, σ1) ∧ Rel χ σ1
def ok_21 (Rel : St → St → Prop) : Prop := ∀ (χ σ : St) (a1 : Int32), Rel χ σ → ∃ (v : Int32) (χ1 : St) (σ1 : St), f_X11_opens χ a1 = some (v, χ1) ∧ f_X12_opens σ a1 = some (v, σ1) ∧ Rel χ1 σ1
def ok_22 (Rel : St → St → Prop) : Prop := ∀ (χ σ : St), Rel χ σ → ∃ (v : Int32) (χ1 : St) (σ1 : St), f_X11_line χ = some (v, χ1) ∧ f_X12_line σ = some (v, σ1) ∧ Rel χ1 σ1
def ok_23 (Rel : St → St → Prop) : Prop := ∀ (χ σ : St) (a1 : Int32), Rel χ σ → ∃ (v : Int32) (χ1 : St) (σ1 : St), f_X11_yes χ a1 = some (v, χ1) ∧ f_X12_yes σ a1 = some (v, σ1) ∧ Rel χ1 σ1
def ok_24 (Rel : St → St → Prop) : Prop := ∀ (χ σ : St), Rel χ σ → ∃ (v : Int32) (χ1 : St) (σ1 : St), f_X11_whole χ = some (v, χ1) ∧ f_X12_whole σ = some (v, σ1) ∧ Rel χ1 σ1
def ok_25 (Rel : St → St → Prop) : Prop := ∀ (χ σ : St), Rel χ σ → ∃ (v : Int32) (χ1 : St) (σ1 : St), f_X11_middle χ = some (v, χ1) ∧ f_X12_middle σ = some (v, σ1) ∧ Rel χ1 σ1
def ok_26 (Rel : St → St → Prop) : Prop := ∀ (χ σ : St), Rel χ σ → ∃ (v : Int32) (χ1 : St) (σ1 : St), f_X11_nearest χ = some (v, χ1) ∧ f_X12_nearest σ = some (v, σ1) ∧ Rel χ1 σ1
def ok_27 (Rel : St → St → Prop) : Prop := ∀ (χ σ : St), Rel χ σ → ∃ (v : Int32) (χ1 : St) (σ1 : St), f_X11_sorts χ = some (v, χ1) ∧ f_X12_sorts σ = some (v, σ1) ∧ Rel χ1 σ1
def ok_28 (Rel : St → St → Prop) : Prop := ∀ (χ σ : St), Rel χ σ → ∃ (v : Int32) (χ1 : St) (σ1 : St), f_X11_tells χ = some (v, χ1) ∧ f_X12_tells σ = some (v, σ1) ∧ Rel χ1 σ1
def ok_29 (Rel : St → St → Prop) : Prop := ∀ (χ σ : St), Rel χ σ → ∃ (v : Int32) (χ1 : St) (σ1 : St), f_X11_jury χ = some (v, χ1) ∧ f_X12_jury σ = some (v, σ1) ∧ Rel χ1 σ1
def ok_30 (Rel : St → St → Prop) : Prop := ∀ (χ σ : St) (a1 : Int32), Rel χ σ → ∃ (v : Int32) (χ1 : St) (σ1 : St), f_X11_power χ a1 = some (v, χ1) ∧ f_X12_power σ a1 = some (v, σ1) ∧ Rel χ1 σ1
def ok_31 (Rel : St → St → Prop) : Prop := ∀ (χ σ : St) (a1 : Int32), Rel χ σ → ∃ (v : Int32) (χ1 : St) (σ1 : St), f_X11_pivots χ a1 = some (v, χ1) ∧ f_X12_pivots σ a1 = some (v, σ1) ∧ Rel χ1 σ1
def ok_32 (Rel : St → St → Prop) : Prop := ∀ (χ σ : St), Rel χ σ → ∃ (v : Int32) (χ1 : St) (σ1 : St), f_X11_rules χ = some (v, χ1) ∧ f_X12_rules σ = some (v, σ1) ∧ Rel χ1 σ1
def ok_33 (Rel : St → St → Prop) : Prop := ∀ (χ σ : St), Rel χ σ → ∃ (v : Int32) (χ1 : St) (σ1 : St), f_X11_parties χ = some (v, χ1) ∧ f_X12_parties σ = some (v, σ1) ∧ Rel χ1 σ1
def ok_34 (Rel : St → St → Prop) : Prop := ∀ (χ σ : St) (a1 a2 a3 : Int32), Rel χ σ → ∃ (v : Int32) (χ1 : St) (σ1 : St), f_X11_seen χ a1 a2 a3 = some (v, χ1) ∧ f_X12_seen σ a1 a2 a3 = some (v, σ1) ∧ Rel χ1 σ1
def ok_35 (Rel : St → St → Prop) : Prop := ∀ (χ σ : St), Rel χ σ → ∃ (v : Int32) (χ1 : St) (σ1 : St), f_X11_forget χ = some (v, χ1) ∧ f_X12_forget σ = some (v, σ1) ∧ Rel χ1 σ1
def ok_36 (Rel : St → St → Prop) : Prop := ∀ (χ σ : St) (a1 : Int32), Rel χ σ → ∃ (v : Int32) (χ1 : St) (σ1 : St), f_X11_cares χ a1 = some (v, χ1) ∧ f_X12_cares σ a1 = some (v, σ1) ∧ Rel χ1 σ1
def ok_37 (Rel : St → St → Prop) : Prop := ∀ (χ σ : St) (a1 : Int32), Rel χ σ → ∃ (v : Int32) (χ1 : St) (σ1 : St), f_X11_next χ a1 = some (v, χ1) ∧ f_X12_next σ a1 = some (v, σ1) ∧ Rel χ1 σ1
def ok_38 (Rel : St → St → Prop) : Prop := ∀ (χ σ : St) (a1 a2 : Int32), Rel χ σ → ∃ (v : Int32) (χ1 : St) (σ1 : St), f_X11_heard χ a1 a2 = some (v, χ1) ∧ f_X12_heard σ a1 a2 = some (v, σ1) ∧ Rel χ1 σ1
def ok_39 (Rel : St → St → Prop) : Prop := ∀ (χ σ : St), Rel χ σ → ∃ (v : Int32) (χ1 : St) (σ1 : St), f_X11_denies χ = some (v, χ1) ∧ f_X12_denies σ = some (v, σ1) ∧ Rel χ1 σ1
def ok_40 (Rel : St → St → Prop) : Prop := ∀ (χ σ : St), Rel χ σ → ∃ (v : Int32) (χ1 : St) (σ1 : St), f_X11_fits χ = some (v, χ1) ∧ f_X12_fits σ = some (v, σ1) ∧ Rel χ1 σ1
def ok_41 (Rel : St → St → Prop) : Prop := ∀ (χ σ : St), Rel χ σ → ∃ (v : Int32) (χ1 : St) (σ1 : St), f_X11_asks χ = some (v, χ1) ∧ f_X12_asks σ = some (v, σ1) ∧ Rel χ1 σ1
def ok_42 (Rel : St → St → Prop) : Prop := ∀ (χ σ : St) (a1 a2 a3 a4 : Int32), Rel χ σ → ∃ (v : Int32) (χ1 : St) (σ1 : St), f_X11_slips χ a1 a2 a3 a4 = some (v, χ1) ∧ f_X12_slips σ a1 a2 a3 a4 = some (v, σ1) ∧ Rel χ1 σ1
def ok_43 (Rel : St → St → Prop) : Prop := ∀ (χ σ : St) (a1 a2 a3 a4 a5 : Int32), Rel χ σ → ∃ (v : Int32) (χ1 : St) (σ1 : St), f_X11_sound χ a1 a2 a3 a4 a5 = some (v, χ1) ∧ f_X12_sound σ a1 a2 a3 a4 a5 = some (v, σ1) ∧ Rel χ1 σ1
def ok_44 (Rel : St → St → Prop) : Prop := ∀ (χ σ : St) (a1 a2 : Int32), Rel χ σ → ∃ (v : Int32) (σ1 : St), f_X11_firm a1 a2 = some v ∧ f_X12_firm σ a1 a2 = some (v, σ1) ∧ Rel χ σ1
def ok_45 (Rel : St → St → Prop) : Prop := ∀ (χ σ : St), Rel χ σ → ∃ (v : Int32) (χ1 : St) (σ1 : St), f_X11_law χ = some (v, χ1) ∧ f_X12_law σ = some (v, σ1) ∧ Rel χ1 σ1
def ok_46 (Rel : St → St → Prop) : Prop := ∀ (χ σ : St) (a1 : Int32), Rel χ σ → ∃ (v : Int32) (χ1 : St) (σ1 : St), f_X11_wordings χ a1 = some (v, χ1) ∧ f_X12_wordings σ a1 = some (v, σ1) ∧ Rel χ1 σ1
def ok_47 (Rel : St → St → Prop) : Prop := ∀ (χ σ : St) (a1 a2 : Int32), Rel χ σ → ∃ (v : Int32) (χ1 : St) (σ1 : St), f_X11_years χ a1 a2 = some (v, χ1) ∧ f_X12_years σ a1 a2 = some (v, σ1) ∧ Rel χ1 σ1
def ok_48 (Rel : St → St → Prop) : Prop := ∀ (χ σ : St) (a1 : Int32), Rel χ σ → ∃ (v : Int32) (χ1 : St) (σ1 : St), f_X11_keep χ a1 = some (v, χ1) ∧ f_X12_keep σ a1 = some (v, σ1) ∧ Rel χ1 σ1
def ok_49 (Rel : St → St → Prop) : Prop := ∀ (χ σ : St) (a1 : Int32), Rel χ σ → ∃ (v : Int32) (χ1 : St) (σ1 : St), f_X11_again χ a1 = some (v, χ1) ∧ f_X12_again σ a1 = some (v, σ1) ∧ Rel χ1 σ1
def ok_50 (Rel : St → St → Prop) : Prop := ∀ (χ σ : St) (a1 : Int32), Rel χ σ → ∃ (v : Int32) (σ1 : St), f_X11_count χ a1 = some v ∧ f_X12_count σ a1 = some (v, σ1) ∧ Rel χ σ1
def ok_51 (Rel : St → St → Prop) : Prop := ∀ (χ σ : St) (a1 : Int32), Rel χ σ → ∃ (q : Option Int64) (v : Int64) (σ1 : St), f_X11_row χ a1 = some q ∧ f_X12_row σ a1 = some (v, σ1) ∧ f_X12_thrown σ1 = some (if q.isSome then 0 else 1) ∧ (∀ u, q = some u → u = v) ∧ Rel χ σ1
theorem l_case_0 {p : Program} {l : Launch} {e : Env} {s : State} {m : MethodId} {below : List Frame} {meth : Method} {c : Code} {b L : Nat} {xs : Nat → Int32} {G : gT} (C : LC p l s m meth c b L xs G) {i : Nat} (hi : i + 6 ≤ L) {cells slots : Nat} (hcs : cells + 1 ≤ 601024 ∧ slots + 6 ≤ 7293034) {Rel : St → St → Prop} (hok : ok_0 Rel) {χ σ : St} (hR : Rel χ σ)
    (kk : ∀ χ1 σ1, Rel χ1 σ1 → LAt p l e s m below meth c b G (cells + 1) (slots + 6) 1661 i χ1 σ1) : LAt p l e s m below meth c b G cells slots 264 i χ σ := by
  intro H locs ls hw hl
  have hx := C.1.1
  have hb := C.1.2.1
  have hf := C.2.2.2.2.2.2.2.1
  obtain ⟨v, χ1, σ1, e1, e2, hR1⟩ := hok χ σ (xs (i + 1)) hR
  refine lv_aload_n hx hb dl_264 rfl (lv_at hl 1 rfl) ?_
  refine lv_aload_n hx hb dl_265 rfl (lv_at hl 0 rfl) ?_
  refine lv_iload hx hb dl_266 (lv_at hl 4 rfl) ?_
  refine lv_iconst (v := (1 : Int32)) hx hb dl_268 (by decide) ?_
  refine lv_iadd hx hb dl_269 ?_
  refine l_ld (k := 1) C hw hi (by decide) (by decide) dl_270 ?_
  refine r_callV (As := [.int (xs (i + 1))]) (rest := []) (st' := [.int v]) C.1 hw hl mwX11_sign wd_293 wd_294 wd_292 (c_X11_sign hf e1) (r_recv C.1 hw ct7 (o_0 hf)) rfl ⟨Nat.le_of_ble_eq_true rfl, Nat.le_of_ble_eq_true rfl⟩ (And.intro (by show _ ≤ 601024; omega) (by show _ ≤ 7293034; omega)) rfl rfl (Nat.le_of_ble_eq_true rfl) dl_271 (fun H locs hw => ?_)
  refine lv_aload_n hx hb dl_274 rfl (lv_at hl 2 rfl) ?_
  refine lv_aload_n hx hb dl_275 rfl (lv_at hl 0 rfl) ?_
  refine lv_iload hx hb dl_276 (lv_at hl 4 rfl) ?_
  refine lv_iconst (v := (1 : Int32)) hx hb dl_278 (by decide) ?_
  refine lv_iadd hx hb dl_279 ?_
  refine l_ld (k := 1) C hw hi (by decide) (by decide) dl_280 ?_
  refine r_callV (As := [.int (xs (i + 1))]) (rest := [.int v]) (st' := [.int v, .int v]) C.1 hw hl mwX12_sign wd_1085 wd_1086 wd_1084 (c_X12_sign hf e2) (r_recv C.1 hw ct8 (o_300 hf)) rfl ⟨Nat.le_of_ble_eq_true rfl, Nat.le_of_ble_eq_true rfl⟩ (And.intro (by show _ ≤ 601024; omega) (by show _ ≤ 7293034; omega)) rfl rfl (Nat.le_of_ble_eq_true rfl) dl_281 (fun H locs hw => ?_)
  refine lv_icmp_eq (tgt := 1661) hx hb dl_284 (by decide) (fun hc => ?_) (fun hc => absurd rfl hc)
  exact W.widen (Nat.le_add_right _ _) (Nat.le_add_right _ _) (kk χ1 σ1 hR1 _ _ _ hw hl)
theorem l_case_1 {p : Program} {l : Launch} {e : Env} {s : State} {m : MethodId} {below : List Frame} {meth : Method} {c : Code} {b L : Nat} {xs : Nat → Int32} {G : gT} (C : LC p l s m meth c b L xs G) {i : Nat} (hi : i + 6 ≤ L) {cells slots : Nat} (hcs : cells + 1 ≤ 601024 ∧ slots + 6 ≤ 7293034) {Rel : St → St → Prop} (hok : ok_1 Rel) {χ σ : St} (hR : Rel χ σ)
    (kk : ∀ χ1 σ1, Rel χ1 σ1 → LAt p l e s m below meth c b G (cells + 1) (slots + 6) 1661 i χ1 σ1) : LAt p l e s m below meth c b G cells slots 289 i χ σ := by
  intro H locs ls hw hl
  have hx := C.1.1
  have hb := C.1.2.1
  have hf := C.2.2.2.2.2.2.2.1
  obtain ⟨v, χ1, σ1, e1, e2, hR1⟩ := hok χ σ (xs (i + 1)) hR
  refine lv_aload_n hx hb dl_289 rfl (lv_at hl 1 rfl) ?_
  refine lv_aload_n hx hb dl_290 rfl (lv_at hl 0 rfl) ?_
  refine lv_iload hx hb dl_291 (lv_at hl 4 rfl) ?_
  refine lv_iconst (v := (1 : Int32)) hx hb dl_293 (by decide) ?_
  refine lv_iadd hx hb dl_294 ?_
  refine l_ld (k := 1) C hw hi (by decide) (by decide) dl_295 ?_
  refine r_callV (As := [.int (xs (i + 1))]) (rest := []) (st' := [.int v]) C.1 hw hl mwX11_end wd_301 wd_302 wd_300 (c_X11_end hf e1) (r_recv C.1 hw ct7 (o_0 hf)) rfl ⟨Nat.le_of_ble_eq_true rfl, Nat.le_of_ble_eq_true rfl⟩ (And.intro (by show _ ≤ 601024; omega) (by show _ ≤ 7293034; omega)) rfl rfl (Nat.le_of_ble_eq_true rfl) dl_296 (fun H locs hw => ?_)
  refine lv_aload_n hx hb dl_299 rfl (lv_at hl 2 rfl) ?_
  refine lv_aload_n hx hb dl_300 rfl (lv_at hl 0 rfl) ?_
  refine lv_iload hx hb dl_301 (lv_at hl 4 rfl) ?_
  refine lv_iconst (v := (1 : Int32)) hx hb dl_303 (by decide) ?_
  refine lv_iadd hx hb dl_304 ?_
  refine l_ld (k := 1) C hw hi (by decide) (by decide) dl_305 ?_
  refine r_callV (As := [.int (xs (i + 1))]) (rest := [.int v]) (st' := [.int v, .int v]) C.1 hw hl mwX12_end wd_1089 wd_1090 wd_1088 (c_X12_end hf e2) (r_recv C.1 hw ct8 (o_300 hf)) rfl ⟨Nat.le_of_ble_eq_true rfl, Nat.le_of_ble_eq_true rfl⟩ (And.intro (by show _ ≤ 601024; omega) (by show _ ≤ 7293034; omega)) rfl rfl (Nat.le_of_ble_eq_true rfl) dl_306 (fun H locs hw => ?_)
  refine lv_icmp_eq (tgt := 1661) hx hb dl_309 (by decide) (fun hc => ?_) (fun hc => absurd rfl hc)
  exact W.widen (Nat.le_add_right _ _) (Nat.le_add_right _ _) (kk χ1 σ1 hR1 _ _ _ hw hl)
theorem l_case_2 {p : Program} {l : Launch} {e : Env} {s : State} {m : MethodId} {below : List Frame} {meth : Method} {c : Code} {b L : Nat} {xs : Nat → Int32} {G : gT} (C : LC p l s m meth c b L xs G) {i : Nat} (hi : i + 6 ≤ L) {cells slots : Nat} (hcs : cells + 1 ≤ 601024 ∧ slots + 6 ≤ 7293034) {Rel : St → St → Prop} (hok : ok_2 Rel) {χ σ : St} (hR : Rel χ σ)
    (kk : ∀ χ1 σ1, Rel χ1 σ1 → LAt p l e s m below meth c b G (cells + 1) (slots + 6) 1661 i χ1 σ1) : LAt p l e s m below meth c b G cells slots 314 i χ σ := by
  intro H locs ls hw hl
  have hx := C.1.1
  have hb := C.1.2.1
  have hf := C.2.2.2.2.2.2.2.1
  obtain ⟨v, χ1, σ1, e1, e2, hR1⟩ := hok χ σ hR
  refine lv_aload_n hx hb dl_314 rfl (lv_at hl 1 rfl) ?_
  refine r_callV (As := []) (rest := []) (st' := [.int v]) C.1 hw hl mwX11_oysters wd_309 wd_310 wd_308 (c_X11_oysters hf e1) (r_recv C.1 hw ct7 (o_0 hf)) rfl ⟨Nat.le_of_ble_eq_true rfl, Nat.le_of_ble_eq_true rfl⟩ (And.intro (by show _ ≤ 601024; omega) (by show _ ≤ 7293034; omega)) rfl rfl (Nat.le_of_ble_eq_true rfl) dl_315 (fun H locs hw => ?_)
  refine lv_aload_n hx hb dl_318 rfl (lv_at hl 2 rfl) ?_
  refine r_callV (As := []) (rest := [.int v]) (st' := [.int v, .int v]) C.1 hw hl mwX12_oysters wd_1096 wd_1097 wd_1095 (c_X12_oysters hf e2) (r_recv C.1 hw ct8 (o_300 hf)) rfl ⟨Nat.le_of_ble_eq_true rfl, Nat.le_of_ble_eq_true rfl⟩ (And.intro (by show _ ≤ 601024; omega) (by show _ ≤ 7293034; omega)) rfl rfl (Nat.le_of_ble_eq_true rfl) dl_319 (fun H locs hw => ?_)
  refine lv_icmp_eq (tgt := 1661) hx hb dl_322 (by decide) (fun hc => ?_) (fun hc => absurd rfl hc)
  exact W.widen (Nat.le_add_right _ _) (Nat.le_add_right _ _) (kk χ1 σ1 hR1 _ _ _ hw hl)
theorem l_case_3 {p : Program} {l : Launch} {e : Env} {s : State} {m : MethodId} {below : List Frame} {meth : Method} {c : Code} {b L : Nat} {xs : Nat → Int32} {G : gT} (C : LC p l s m meth c b L xs G) {i : Nat} (hi : i + 6 ≤ L) {cells slots : Nat} (hcs : cells + 1 ≤ 601024 ∧ slots + 6 ≤ 7293034) {Rel : St → St → Prop} (hok : ok_3 Rel) {χ σ : St} (hR : Rel χ σ)
    (kk : ∀ χ1 σ1, Rel χ1 σ1 → LAt p l e s m below meth c b G (cells + 1) (slots + 6) 1661 i χ1 σ1) : LAt p l e s m below meth c b G cells slots 327 i χ σ := by
  intro H locs ls hw hl
  have hx := C.1.1
  have hb := C.1.2.1
  have hf := C.2.2.2.2.2.2.2.1
  obtain ⟨v, χ1, σ1, e1, e2, hR1⟩ := hok χ σ hR
  refine lv_aload_n hx hb dl_327 rfl (lv_at hl 1 rfl) ?_
  refine r_callV (As := []) (rest := []) (st' := [.int v]) C.1 hw hl mwX11_rule wd_350 wd_351 wd_349 (c_X11_rule hf e1) (r_recv C.1 hw ct7 (o_0 hf)) rfl ⟨Nat.le_of_ble_eq_true rfl, Nat.le_of_ble_eq_true rfl⟩ (And.intro (by show _ ≤ 601024; omega) (by show _ ≤ 7293034; omega)) rfl rfl (Nat.le_of_ble_eq_true rfl) dl_328 (fun H locs hw => ?_)
  refine lv_aload_n hx hb dl_331 rfl (lv_at hl 2 rfl) ?_
  refine r_callV (As := []) (rest := [.int v]) (st' := [.int v, .int v]) C.1 hw hl mwX12_rule wd_1187 wd_1188 wd_1186 (c_X12_rule hf e2) (r_recv C.1 hw ct8 (o_300 hf)) rfl ⟨Nat.le_of_ble_eq_true rfl, Nat.le_of_ble_eq_true rfl⟩ (And.intro (by show _ ≤ 601024; omega) (by show _ ≤ 7293034; omega)) rfl rfl (Nat.le_of_ble_eq_true rfl) dl_332 (fun H locs hw => ?_)
  refine lv_icmp_eq (tgt := 1661) hx hb dl_335 (by decide) (fun hc => ?_) (fun hc => absurd rfl hc)
  exact W.widen (Nat.le_add_right _ _) (Nat.le_add_right _ _) (kk χ1 σ1 hR1 _ _ _ hw hl)
theorem l_case_5 {p : Program} {l : Launch} {e : Env} {s : State} {m : MethodId} {below : List Frame} {meth : Method} {c : Code} {b L : Nat} {xs : Nat → Int32} {G : gT} (C : LC p l s m meth c b L xs G) {i : Nat} (hi : i + 6 ≤ L) {cells slots : Nat} (hcs : cells + 1 ≤ 601024 ∧ slots + 6 ≤ 7293034) {Rel : St → St → Prop} (hok : ok_5 Rel) {χ σ : St} (hR : Rel χ σ)
    (kk : ∀ χ1 σ1, Rel χ1 σ1 → LAt p l e s m below meth c b G (cells + 1) (slots + 6) 1661 i χ1 σ1) : LAt p l e s m below meth c b G cells slots 408 i χ σ := by
  intro H locs ls hw hl
  have hx := C.1.1
  have hb := C.1.2.1
  have hf := C.2.2.2.2.2.2.2.1
  obtain ⟨v, χ1, σ1, e1, e2, hR1⟩ := hok χ σ (xs (i + 1)) (xs (i + 2)) (xs (i + 3)) (xs (i + 4)) hR
  refine lv_aload_n hx hb dl_408 rfl (lv_at hl 1 rfl) ?_
  refine lv_aload_n hx hb dl_409 rfl (lv_at hl 0 rfl) ?_
  refine lv_iload hx hb dl_410 (lv_at hl 4 rfl) ?_
  refine lv_iconst (v := (1 : Int32)) hx hb dl_412 (by decide) ?_
  refine lv_iadd hx hb dl_413 ?_
  refine l_ld (k := 1) C hw hi (by decide) (by decide) dl_414 ?_
  refine lv_aload_n hx hb dl_415 rfl (lv_at hl 0 rfl) ?_
  refine lv_iload hx hb dl_416 (lv_at hl 4 rfl) ?_
  refine lv_iconst (v := (2 : Int32)) hx hb dl_418 (by decide) ?_
  refine lv_iadd hx hb dl_419 ?_
  refine l_ld (k := 2) C hw hi (by decide) (by decide) dl_420 ?_
  refine lv_aload_n hx hb dl_421 rfl (lv_at hl 0 rfl) ?_
  refine lv_iload hx hb dl_422 (lv_at hl 4 rfl) ?_
  refine lv_iconst (v := (3 : Int32)) hx hb dl_424 (by decide) ?_
  refine lv_iadd hx hb dl_425 ?_
  refine l_ld (k := 3) C hw hi (by decide) (by decide) dl_426 ?_
  refine lv_aload_n hx hb dl_427 rfl (lv_at hl 0 rfl) ?_
  refine lv_iload hx hb dl_428 (lv_at hl 4 rfl) ?_
  refine lv_iconst (v := (4 : Int32)) hx hb dl_430 (by decide) ?_
  refine lv_iadd hx hb dl_431 ?_
  refine l_ld (k := 4) C hw hi (by decide) (by decide) dl_432 ?_
  refine r_callV (As := [.int (xs (i + 1)), .int (xs (i + 2)), .int (xs (i + 3)), .int (xs (i + 4))]) (rest := []) (st' := [.int v]) C.1 hw hl mwX11_sheet wd_364 wd_365 wd_363 (c_X11_sheet hf e1) (r_recv C.1 hw ct7 (o_0 hf)) rfl ⟨Nat.le_of_ble_eq_true rfl, Nat.le_of_ble_eq_true rfl⟩ (And.intro (by show _ ≤ 601024; omega) (by show _ ≤ 7293034; omega)) rfl rfl (Nat.le_of_ble_eq_true rfl) dl_433 (fun H locs hw => ?_)
  refine lv_aload_n hx hb dl_436 rfl (lv_at hl 2 rfl) ?_
  refine lv_aload_n hx hb dl_437 rfl (lv_at hl 0 rfl) ?_
  refine lv_iload hx hb dl_438 (lv_at hl 4 rfl) ?_
  refine lv_iconst (v := (1 : Int32)) hx hb dl_440 (by decide) ?_
  refine lv_iadd hx hb dl_441 ?_
  refine l_ld (k := 1) C hw hi (by decide) (by decide) dl_442 ?_
  refine lv_aload_n hx hb dl_443 rfl (lv_at hl 0 rfl) ?_
  refine lv_iload hx hb dl_444 (lv_at hl 4 rfl) ?_
  refine lv_iconst (v := (2 : Int32)) hx hb dl_446 (by decide) ?_
  refine lv_iadd hx hb dl_447 ?_
  refine l_ld (k := 2) C hw hi (by decide) (by decide) dl_448 ?_
  refine lv_aload_n hx hb dl_449 rfl (lv_at hl 0 rfl) ?_
  refine lv_iload hx hb dl_450 (lv_at hl 4 rfl) ?_
  refine lv_iconst (v := (3 : Int32)) hx hb dl_452 (by decide) ?_
  refine lv_iadd hx hb dl_453 ?_
  refine l_ld (k := 3) C hw hi (by decide) (by decide) dl_454 ?_
  refine lv_aload_n hx hb dl_455 rfl (lv_at hl 0 rfl) ?_
  refine lv_iload hx hb dl_456 (lv_at hl 4 rfl) ?_
  refine lv_iconst (v := (4 : Int32)) hx hb dl_458 (by decide) ?_
  refine lv_iadd hx hb dl_459 ?_
  refine l_ld (k := 4) C hw hi (by decide) (by decide) dl_460 ?_
  refine r_callV (As := [.int (xs (i + 1)), .int (xs (i + 2)), .int (xs (i + 3)), .int (xs (i + 4))]) (rest := [.int v]) (st' := [.int v, .int v]) C.1 hw hl mwX12_sheet wd_1228 wd_1229 wd_1227 (c_X12_sheet hf e2) (r_recv C.1 hw ct8 (o_300 hf)) rfl ⟨Nat.le_of_ble_eq_true rfl, Nat.le_of_ble_eq_true rfl⟩ (And.intro (by show _ ≤ 601024; omega) (by show _ ≤ 7293034; omega)) rfl rfl (Nat.le_of_ble_eq_true rfl) dl_461 (fun H locs hw => ?_)
  refine lv_icmp_eq (tgt := 1661) hx hb dl_464 (by decide) (fun hc => ?_) (fun hc => absurd rfl hc)
  exact W.widen (Nat.le_add_right _ _) (Nat.le_add_right _ _) (kk χ1 σ1 hR1 _ _ _ hw hl)
theorem l_case_6 {p : Program} {l : Launch} {e : Env} {s : State} {m : MethodId} {below : List Frame} {meth : Method} {c : Code} {b L : Nat} {xs : Nat → Int32} {G : gT} (C : LC p l s m meth c b L xs G) {i : Nat} (hi : i + 6 ≤ L) {cells slots : Nat} (hcs : cells + 1 ≤ 601024 ∧ slots + 6 ≤ 7293034) {Rel : St → St → Prop} (hok : ok_6 Rel) {χ σ : St} (hR : Rel χ σ)
    (kk : ∀ χ1 σ1, Rel χ1 σ1 → LAt p l e s m below meth c b G (cells + 1) (slots + 6) 1661 i χ1 σ1) : LAt p l e s m below meth c b G cells slots 469 i χ σ := by
  intro H locs ls hw hl
  have hx := C.1.1
  have hb := C.1.2.1
  have hf := C.2.2.2.2.2.2.2.1
  obtain ⟨v, χ1, σ1, e1, e2, hR1⟩ := hok χ σ (xs (i + 1)) (xs (i + 2)) hR
  refine lv_aload_n hx hb dl_469 rfl (lv_at hl 1 rfl) ?_
  refine lv_aload_n hx hb dl_470 rfl (lv_at hl 0 rfl) ?_
  refine lv_iload hx hb dl_471 (lv_at hl 4 rfl) ?_
  refine lv_iconst (v := (1 : Int32)) hx hb dl_473 (by decide) ?_
  refine lv_iadd hx hb dl_474 ?_
  refine l_ld (k := 1) C hw hi (by decide) (by decide) dl_475 ?_
  refine lv_aload_n hx hb dl_476 rfl (lv_at hl 0 rfl) ?_
  refine lv_iload hx hb dl_477 (lv_at hl 4 rfl) ?_
  refine lv_iconst (v := (2 : Int32)) hx hb dl_479 (by decide) ?_
  refine lv_iadd hx hb dl_480 ?_
  refine l_ld (k := 2) C hw hi (by decide) (by decide) dl_481 ?_
  refine r_callV (As := [.int (xs (i + 1)), .int (xs (i + 2))]) (rest := []) (st' := [.int v]) C.1 hw hl mwX11_puts wd_378 wd_379 wd_377 (c_X11_puts hf e1) (r_recv C.1 hw ct7 (o_0 hf)) rfl ⟨Nat.le_of_ble_eq_true rfl, Nat.le_of_ble_eq_true rfl⟩ (And.intro (by show _ ≤ 601024; omega) (by show _ ≤ 7293034; omega)) rfl rfl (Nat.le_of_ble_eq_true rfl) dl_482 (fun H locs hw => ?_)
  refine lv_aload_n hx hb dl_485 rfl (lv_at hl 2 rfl) ?_
  refine lv_aload_n hx hb dl_486 rfl (lv_at hl 0 rfl) ?_
  refine lv_iload hx hb dl_487 (lv_at hl 4 rfl) ?_
  refine lv_iconst (v := (1 : Int32)) hx hb dl_489 (by decide) ?_
  refine lv_iadd hx hb dl_490 ?_
  refine l_ld (k := 1) C hw hi (by decide) (by decide) dl_491 ?_
  refine lv_aload_n hx hb dl_492 rfl (lv_at hl 0 rfl) ?_
  refine lv_iload hx hb dl_493 (lv_at hl 4 rfl) ?_
  refine lv_iconst (v := (2 : Int32)) hx hb dl_495 (by decide) ?_
  refine lv_iadd hx hb dl_496 ?_
  refine l_ld (k := 2) C hw hi (by decide) (by decide) dl_497 ?_
  refine r_callV (As := [.int (xs (i + 1)), .int (xs (i + 2))]) (rest := [.int v]) (st' := [.int v, .int v]) C.1 hw hl mwX12_puts wd_1242 wd_1243 wd_1241 (c_X12_puts hf e2) (r_recv C.1 hw ct8 (o_300 hf)) rfl ⟨Nat.le_of_ble_eq_true rfl, Nat.le_of_ble_eq_true rfl⟩ (And.intro (by show _ ≤ 601024; omega) (by show _ ≤ 7293034; omega)) rfl rfl (Nat.le_of_ble_eq_true rfl) dl_498 (fun H locs hw => ?_)
  refine lv_icmp_eq (tgt := 1661) hx hb dl_501 (by decide) (fun hc => ?_) (fun hc => absurd rfl hc)
  exact W.widen (Nat.le_add_right _ _) (Nat.le_add_right _ _) (kk χ1 σ1 hR1 _ _ _ hw hl)
theorem l_case_7 {p : Program} {l : Launch} {e : Env} {s : State} {m : MethodId} {below : List Frame} {meth : Method} {c : Code} {b L : Nat} {xs : Nat → Int32} {G : gT} (C : LC p l s m meth c b L xs G) {i : Nat} (hi : i + 6 ≤ L) {cells slots : Nat} (hcs : cells + 1 ≤ 601024 ∧ slots + 6 ≤ 7293034) {Rel : St → St → Prop} (hok : ok_7 Rel) {χ σ : St} (hR : Rel χ σ)
    (kk : ∀ χ1 σ1, Rel χ1 σ1 → LAt p l e s m below meth c b G (cells + 1) (slots + 6) 1661 i χ1 σ1) : LAt p l e s m below meth c b G cells slots 506 i χ σ := by
  intro H locs ls hw hl
  have hx := C.1.1
  have hb := C.1.2.1
  have hf := C.2.2.2.2.2.2.2.1
  obtain ⟨v, χ1, σ1, e1, e2, hR1⟩ := hok χ σ (xs (i + 1)) hR
  refine lv_aload_n hx hb dl_506 rfl (lv_at hl 1 rfl) ?_
  refine lv_aload_n hx hb dl_507 rfl (lv_at hl 0 rfl) ?_
  refine lv_iload hx hb dl_508 (lv_at hl 4 rfl) ?_
  refine lv_iconst (v := (1 : Int32)) hx hb dl_510 (by decide) ?_
  refine lv_iadd hx hb dl_511 ?_
  refine l_ld (k := 1) C hw hi (by decide) (by decide) dl_512 ?_
  refine r_callV (As := [.int (xs (i + 1))]) (rest := []) (st' := [.int v]) C.1 hw hl mwX11_tides wd_442 wd_443 wd_441 (c_X11_tides hf e1) (r_recv C.1 hw ct7 (o_0 hf)) rfl ⟨Nat.le_of_ble_eq_true rfl, Nat.le_of_ble_eq_true rfl⟩ (And.intro (by show _ ≤ 601024; omega) (by show _ ≤ 7293034; omega)) rfl rfl (Nat.le_of_ble_eq_true rfl) dl_513 (fun H locs hw => ?_)
  refine lv_aload_n hx hb dl_516 rfl (lv_at hl 2 rfl) ?_
  refine lv_aload_n hx hb dl_517 rfl (lv_at hl 0 rfl) ?_
  refine lv_iload hx hb dl_518 (lv_at hl 4 rfl) ?_
  refine lv_iconst (v := (1 : Int32)) hx hb dl_520 (by decide) ?_
  refine lv_iadd hx hb dl_521 ?_
  refine l_ld (k := 1) C hw hi (by decide) (by decide) dl_522 ?_
  refine r_callV (As := [.int (xs (i + 1))]) (rest := [.int v]) (st' := [.int v, .int v]) C.1 hw hl mwX12_tides wd_1289 wd_1290 wd_1288 (c_X12_tides hf e2) (r_recv C.1 hw ct8 (o_300 hf)) rfl ⟨Nat.le_of_ble_eq_true rfl, Nat.le_of_ble_eq_true rfl⟩ (And.intro (by show _ ≤ 601024; omega) (by show _ ≤ 7293034; omega)) rfl rfl (Nat.le_of_ble_eq_true rfl) dl_523 (fun H locs hw => ?_)
  refine lv_icmp_eq (tgt := 1661) hx hb dl_526 (by decide) (fun hc => ?_) (fun hc => absurd rfl hc)
  exact W.widen (Nat.le_add_right _ _) (Nat.le_add_right _ _) (kk χ1 σ1 hR1 _ _ _ hw hl)
theorem l_case_8 {p : Program} {l : Launch} {e : Env} {s : State} {m : MethodId} {below : List Frame} {meth : Method} {c : Code} {b L : Nat} {xs : Nat → Int32} {G : gT} (C : LC p l s m meth c b L xs G) {i : Nat} (hi : i + 6 ≤ L) {cells slots : Nat} (hcs : cells + 1 ≤ 601024 ∧ slots + 6 ≤ 7293034) {Rel : St → St → Prop} (hok : ok_8 Rel) {χ σ : St} (hR : Rel χ σ)
    (kk : ∀ χ1 σ1, Rel χ1 σ1 → LAt p l e s m below meth c b G (cells + 1) (slots + 6) 1661 i χ1 σ1) : LAt p l e s m below meth c b G cells slots 531 i χ σ := by
  intro H locs ls hw hl
  have hx := C.1.1
  have hb := C.1.2.1
  have hf := C.2.2.2.2.2.2.2.1
  obtain ⟨v, χ1, σ1, e1, e2, hR1⟩ := hok χ σ (xs (i + 1)) (xs (i + 2)) hR
  refine lv_aload_n hx hb dl_531 rfl (lv_at hl 1 rfl) ?_
  refine lv_aload_n hx hb dl_532 rfl (lv_at hl 0 rfl) ?_
  refine lv_iload hx hb dl_533 (lv_at hl 4 rfl) ?_
  refine lv_iconst (v := (1 : Int32)) hx hb dl_535 (by decide) ?_
  refine lv_iadd hx hb dl_536 ?_
  refine l_ld (k := 1) C hw hi (by decide) (by decide) dl_537 ?_
  refine lv_aload_n hx hb dl_538 rfl (lv_at hl 0 rfl) ?_
  refine lv_iload hx hb dl_539 (lv_at hl 4 rfl) ?_
  refine lv_iconst (v := (2 : Int32)) hx hb dl_541 (by decide) ?_
  refine lv_iadd hx hb dl_542 ?_
  refine l_ld (k := 2) C hw hi (by decide) (by decide) dl_543 ?_
  refine r_callV (As := [.int (xs (i + 1)), .int (xs (i + 2))]) (rest := []) (st' := [.int v]) C.1 hw hl mwX11_stills wd_451 wd_452 wd_450 (c_X11_stills hf e1) (r_recv C.1 hw ct7 (o_0 hf)) rfl ⟨Nat.le_of_ble_eq_true rfl, Nat.le_of_ble_eq_true rfl⟩ (And.intro (by show _ ≤ 601024; omega) (by show _ ≤ 7293034; omega)) rfl rfl (Nat.le_of_ble_eq_true rfl) dl_544 (fun H locs hw => ?_)
  refine lv_aload_n hx hb dl_547 rfl (lv_at hl 2 rfl) ?_
  refine lv_aload_n hx hb dl_548 rfl (lv_at hl 0 rfl) ?_
  refine lv_iload hx hb dl_549 (lv_at hl 4 rfl) ?_
  refine lv_iconst (v := (1 : Int32)) hx hb dl_551 (by decide) ?_
  refine lv_iadd hx hb dl_552 ?_
  refine l_ld (k := 1) C hw hi (by decide) (by decide) dl_553 ?_
  refine lv_aload_n hx hb dl_554 rfl (lv_at hl 0 rfl) ?_
  refine lv_iload hx hb dl_555 (lv_at hl 4 rfl) ?_
  refine lv_iconst (v := (2 : Int32)) hx hb dl_557 (by decide) ?_
  refine lv_iadd hx hb dl_558 ?_
  refine l_ld (k := 2) C hw hi (by decide) (by decide) dl_559 ?_
  refine r_callV (As := [.int (xs (i + 1)), .int (xs (i + 2))]) (rest := [.int v]) (st' := [.int v, .int v]) C.1 hw hl mwX12_stills wd_1298 wd_1299 wd_1297 (c_X12_stills hf e2) (r_recv C.1 hw ct8 (o_300 hf)) rfl ⟨Nat.le_of_ble_eq_true rfl, Nat.le_of_ble_eq_true rfl⟩ (And.intro (by show _ ≤ 601024; omega) (by show _ ≤ 7293034; omega)) rfl rfl (Nat.le_of_ble_eq_true rfl) dl_560 (fun H locs hw => ?_)
  refine lv_icmp_eq (tgt := 1661) hx hb dl_563 (by decide) (fun hc => ?_) (fun hc => absurd rfl hc)
  exact W.widen (Nat.le_add_right _ _) (Nat.le_add_right _ _) (kk χ1 σ1 hR1 _ _ _ hw hl)
theorem l_case_9 {p : Program} {l : Launch} {e : Env} {s : State} {m : MethodId} {below : List Frame} {meth : Method} {c : Code} {b L : Nat} {xs : Nat → Int32} {G : gT} (C : LC p l s m meth c b L xs G) {i : Nat} (hi : i + 6 ≤ L) {cells slots : Nat} (hcs : cells + 1 ≤ 601024 ∧ slots + 6 ≤ 7293034) {Rel : St → St → Prop} (hok : ok_9 Rel) {χ σ : St} (hR : Rel χ σ)
    (kk : ∀ χ1 σ1, Rel χ1 σ1 → LAt p l e s m below meth c b G (cells + 1) (slots + 6) 1661 i χ1 σ1) : LAt p l e s m below meth c b G cells slots 568 i χ σ := by
  intro H locs ls hw hl
  have hx := C.1.1
  have hb := C.1.2.1
  have hf := C.2.2.2.2.2.2.2.1
  obtain ⟨v, χ1, σ1, e1, e2, hR1⟩ := hok χ σ (xs (i + 1)) (xs (i + 2)) hR
  refine lv_aload_n hx hb dl_568 rfl (lv_at hl 1 rfl) ?_
  refine lv_aload_n hx hb dl_569 rfl (lv_at hl 0 rfl) ?_
  refine lv_iload hx hb dl_570 (lv_at hl 4 rfl) ?_
  refine lv_iconst (v := (1 : Int32)) hx hb dl_572 (by decide) ?_
  refine lv_iadd hx hb dl_573 ?_
  refine l_ld (k := 1) C hw hi (by decide) (by decide) dl_574 ?_
  refine lv_aload_n hx hb dl_575 rfl (lv_at hl 0 rfl) ?_
  refine lv_iload hx hb dl_576 (lv_at hl 4 rfl) ?_
  refine lv_iconst (v := (2 : Int32)) hx hb dl_578 (by decide) ?_
  refine lv_iadd hx hb dl_579 ?_
  refine l_ld (k := 2) C hw hi (by decide) (by decide) dl_580 ?_
  refine r_callV (As := [.int (xs (i + 1)), .int (xs (i + 2))]) (rest := []) (st' := [.int v]) C.1 hw hl mwX11_holds wd_465 wd_466 wd_464 (c_X11_holds hf e1) (r_recv C.1 hw ct7 (o_0 hf)) rfl ⟨Nat.le_of_ble_eq_true rfl, Nat.le_of_ble_eq_true rfl⟩ (And.intro (by show _ ≤ 601024; omega) (by show _ ≤ 7293034; omega)) rfl rfl (Nat.le_of_ble_eq_true rfl) dl_581 (fun H locs hw => ?_)
  refine lv_aload_n hx hb dl_584 rfl (lv_at hl 2 rfl) ?_
  refine lv_aload_n hx hb dl_585 rfl (lv_at hl 0 rfl) ?_
  refine lv_iload hx hb dl_586 (lv_at hl 4 rfl) ?_
  refine lv_iconst (v := (1 : Int32)) hx hb dl_588 (by decide) ?_
  refine lv_iadd hx hb dl_589 ?_
  refine l_ld (k := 1) C hw hi (by decide) (by decide) dl_590 ?_
  refine lv_aload_n hx hb dl_591 rfl (lv_at hl 0 rfl) ?_
  refine lv_iload hx hb dl_592 (lv_at hl 4 rfl) ?_
  refine lv_iconst (v := (2 : Int32)) hx hb dl_594 (by decide) ?_
  refine lv_iadd hx hb dl_595 ?_
  refine l_ld (k := 2) C hw hi (by decide) (by decide) dl_596 ?_
  refine r_callV (As := [.int (xs (i + 1)), .int (xs (i + 2))]) (rest := [.int v]) (st' := [.int v, .int v]) C.1 hw hl mwX12_holds wd_1314 wd_1315 wd_1313 (c_X12_holds hf e2) (r_recv C.1 hw ct8 (o_300 hf)) rfl ⟨Nat.le_of_ble_eq_true rfl, Nat.le_of_ble_eq_true rfl⟩ (And.intro (by show _ ≤ 601024; omega) (by show _ ≤ 7293034; omega)) rfl rfl (Nat.le_of_ble_eq_true rfl) dl_597 (fun H locs hw => ?_)
  refine lv_icmp_eq (tgt := 1661) hx hb dl_600 (by decide) (fun hc => ?_) (fun hc => absurd rfl hc)
  exact W.widen (Nat.le_add_right _ _) (Nat.le_add_right _ _) (kk χ1 σ1 hR1 _ _ _ hw hl)
theorem l_case_10 {p : Program} {l : Launch} {e : Env} {s : State} {m : MethodId} {below : List Frame} {meth : Method} {c : Code} {b L : Nat} {xs : Nat → Int32} {G : gT} (C : LC p l s m meth c b L xs G) {i : Nat} (hi : i + 6 ≤ L) {cells slots : Nat} (hcs : cells + 1 ≤ 601024 ∧ slots + 6 ≤ 7293034) {Rel : St → St → Prop} (hok : ok_10 Rel) {χ σ : St} (hR : Rel χ σ)
    (kk : ∀ χ1 σ1, Rel χ1 σ1 → LAt p l e s m below meth c b G (cells + 1) (slots + 6) 1661 i χ1 σ1) : LAt p l e s m below meth c b G cells slots 605 i χ σ := by
  intro H locs ls hw hl
  have hx := C.1.1
  have hb := C.1.2.1
  have hf := C.2.2.2.2.2.2.2.1
  obtain ⟨v, χ1, σ1, e1, e2, hR1⟩ := hok χ σ (xs (i + 1)) hR
  refine lv_aload_n hx hb dl_605 rfl (lv_at hl 1 rfl) ?_
  refine lv_aload_n hx hb dl_606 rfl (lv_at hl 0 rfl) ?_
  refine lv_iload hx hb dl_607 (lv_at hl 4 rfl) ?_
  refine lv_iconst (v := (1 : Int32)) hx hb dl_609 (by decide) ?_
  refine lv_iadd hx hb dl_610 ?_
  refine l_ld (k := 1) C hw hi (by decide) (by decide) dl_611 ?_
  refine r_callV (As := [.int (xs (i + 1))]) (rest := []) (st' := [.int v]) C.1 hw hl mwX11_knife wd_473 wd_474 wd_472 (c_X11_knife hf e1) (r_recv C.1 hw ct7 (o_0 hf)) rfl ⟨Nat.le_of_ble_eq_true rfl, Nat.le_of_ble_eq_true rfl⟩ (And.intro (by show _ ≤ 601024; omega) (by show _ ≤ 7293034; omega)) rfl rfl (Nat.le_of_ble_eq_true rfl) dl_612 (fun H locs hw => ?_)
  refine lv_aload_n hx hb dl_615 rfl (lv_at hl 2 rfl) ?_
  refine lv_aload_n hx hb dl_616 rfl (lv_at hl 0 rfl) ?_
  refine lv_iload hx hb dl_617 (lv_at hl 4 rfl) ?_
  refine lv_iconst (v := (1 : Int32)) hx hb dl_619 (by decide) ?_
  refine lv_iadd hx hb dl_620 ?_
  refine l_ld (k := 1) C hw hi (by decide) (by decide) dl_621 ?_
  refine r_callV (As := [.int (xs (i + 1))]) (rest := [.int v]) (st' := [.int v, .int v]) C.1 hw hl mwX12_knife wd_1323 wd_1324 wd_1322 (c_X12_knife hf e2) (r_recv C.1 hw ct8 (o_300 hf)) rfl ⟨Nat.le_of_ble_eq_true rfl, Nat.le_of_ble_eq_true rfl⟩ (And.intro (by show _ ≤ 601024; omega) (by show _ ≤ 7293034; omega)) rfl rfl (Nat.le_of_ble_eq_true rfl) dl_622 (fun H locs hw => ?_)
  refine lv_icmp_eq (tgt := 1661) hx hb dl_625 (by decide) (fun hc => ?_) (fun hc => absurd rfl hc)
  exact W.widen (Nat.le_add_right _ _) (Nat.le_add_right _ _) (kk χ1 σ1 hR1 _ _ _ hw hl)
theorem l_case_11 {p : Program} {l : Launch} {e : Env} {s : State} {m : MethodId} {below : List Frame} {meth : Method} {c : Code} {b L : Nat} {xs : Nat → Int32} {G : gT} (C : LC p l s m meth c b L xs G) {i : Nat} (hi : i + 6 ≤ L) {cells slots : Nat} (hcs : cells + 1 ≤ 601024 ∧ slots + 6 ≤ 7293034) {Rel : St → St → Prop} (hok : ok_11 Rel) {χ σ : St} (hR : Rel χ σ)
    (kk : ∀ χ1 σ1, Rel χ1 σ1 → LAt p l e s m below meth c b G (cells + 1) (slots + 6) 1661 i χ1 σ1) : LAt p l e s m below meth c b G cells slots 630 i χ σ := by
  intro H locs ls hw hl
  have hx := C.1.1
  have hb := C.1.2.1
  have hf := C.2.2.2.2.2.2.2.1
  obtain ⟨v, χ1, σ1, e1, e2, hR1⟩ := hok χ σ hR
  refine lv_aload_n hx hb dl_630 rfl (lv_at hl 1 rfl) ?_
  refine r_callV (As := []) (rest := []) (st' := [.int v]) C.1 hw hl mwX11_season wd_481 wd_482 wd_480 (c_X11_season hf e1) (r_recv C.1 hw ct7 (o_0 hf)) rfl ⟨Nat.le_of_ble_eq_true rfl, Nat.le_of_ble_eq_true rfl⟩ (And.intro (by show _ ≤ 601024; omega) (by show _ ≤ 7293034; omega)) rfl rfl (Nat.le_of_ble_eq_true rfl) dl_631 (fun H locs hw => ?_)
  refine lv_aload_n hx hb dl_634 rfl (lv_at hl 2 rfl) ?_
  refine r_callV (As := []) (rest := [.int v]) (st' := [.int v, .int v]) C.1 hw hl mwX12_season wd_1331 wd_1332 wd_1330 (c_X12_season hf e2) (r_recv C.1 hw ct8 (o_300 hf)) rfl ⟨Nat.le_of_ble_eq_true rfl, Nat.le_of_ble_eq_true rfl⟩ (And.intro (by show _ ≤ 601024; omega) (by show _ ≤ 7293034; omega)) rfl rfl (Nat.le_of_ble_eq_true rfl) dl_635 (fun H locs hw => ?_)
  refine lv_icmp_eq (tgt := 1661) hx hb dl_638 (by decide) (fun hc => ?_) (fun hc => absurd rfl hc)
  exact W.widen (Nat.le_add_right _ _) (Nat.le_add_right _ _) (kk χ1 σ1 hR1 _ _ _ hw hl)
theorem l_case_12 {p : Program} {l : Launch} {e : Env} {s : State} {m : MethodId} {below : List Frame} {meth : Method} {c : Code} {b L : Nat} {xs : Nat → Int32} {G : gT} (C : LC p l s m meth c b L xs G) {i : Nat} (hi : i + 6 ≤ L) {cells slots : Nat} (hcs : cells + 1 ≤ 601024 ∧ slots + 6 ≤ 7293034) {Rel : St → St → Prop} (hok : ok_12 Rel) {χ σ : St} (hR : Rel χ σ)
    (kk : ∀ χ1 σ1, Rel χ1 σ1 → LAt p l e s m below meth c b G (cells + 1) (slots + 6) 1661 i χ1 σ1) : LAt p l e s m below meth c b G cells slots 643 i χ σ := by
  intro H locs ls hw hl
  have hx := C.1.1
  have hb := C.1.2.1
  have hf := C.2.2.2.2.2.2.2.1
  obtain ⟨v, χ1, σ1, e1, e2, hR1⟩ := hok χ σ hR
  refine lv_aload_n hx hb dl_643 rfl (lv_at hl 1 rfl) ?_
  refine r_callV (As := []) (rest := []) (st' := [.int v]) C.1 hw hl mwX11_undo wd_497 wd_498 wd_496 (c_X11_undo hf e1) (r_recv C.1 hw ct7 (o_0 hf)) rfl ⟨Nat.le_of_ble_eq_true rfl, Nat.le_of_ble_eq_true rfl⟩ (And.intro (by show _ ≤ 601024; omega) (by show _ ≤ 7293034; omega)) rfl rfl (Nat.le_of_ble_eq_true rfl) dl_644 (fun H locs hw => ?_)
  refine lv_aload_n hx hb dl_647 rfl (lv_at hl 2 rfl) ?_
  refine r_callV (As := []) (rest := [.int v]) (st' := [.int v, .int v]) C.1 hw hl mwX12_undo wd_1238 wd_1239 wd_1237 (c_X12_undo hf e2) (r_recv C.1 hw ct8 (o_300 hf)) rfl ⟨Nat.le_of_ble_eq_true rfl, Nat.le_of_ble_eq_true rfl⟩ (And.intro (by show _ ≤ 601024; omega) (by show _ ≤ 7293034; omega)) rfl rfl (Nat.le_of_ble_eq_true rfl) dl_648 (fun H locs hw => ?_)
  refine lv_icmp_eq (tgt := 1661) hx hb dl_651 (by decide) (fun hc => ?_) (fun hc => absurd rfl hc)
  exact W.widen (Nat.le_add_right _ _) (Nat.le_add_right _ _) (kk χ1 σ1 hR1 _ _ _ hw hl)
theorem l_case_13 {p : Program} {l : Launch} {e : Env} {s : State} {m : MethodId} {below : List Frame} {meth : Method} {c : Code} {b L : Nat} {xs : Nat → Int32} {G : gT} (C : LC p l s m meth c b L xs G) {i : Nat} (hi : i + 6 ≤ L) {cells slots : Nat} (hcs : cells + 1 ≤ 601024 ∧ slots + 6 ≤ 7293034) {Rel : St → St → Prop} (hok : ok_13 Rel) {χ σ : St} (hR : Rel χ σ)
    (kk : ∀ χ1 σ1, Rel χ1 σ1 → LAt p l e s m below meth c b G (cells + 1) (slots + 6) 1661 i χ1 σ1) : LAt p l e s m below meth c b G cells slots 656 i χ σ := by
  intro H locs ls hw hl
  have hx := C.1.1
  have hb := C.1.2.1
  have hf := C.2.2.2.2.2.2.2.1
  obtain ⟨v, χ1, σ1, e1, e2, hR1⟩ := hok χ σ (xs (i + 1)) (xs (i + 2)) hR
  refine lv_aload_n hx hb dl_656 rfl (lv_at hl 1 rfl) ?_
  refine lv_aload_n hx hb dl_657 rfl (lv_at hl 0 rfl) ?_
  refine lv_iload hx hb dl_658 (lv_at hl 4 rfl) ?_
  refine lv_iconst (v := (1 : Int32)) hx hb dl_660 (by decide) ?_
  refine lv_iadd hx hb dl_661 ?_
  refine l_ld (k := 1) C hw hi (by decide) (by decide) dl_662 ?_
  refine lv_aload_n hx hb dl_663 rfl (lv_at hl 0 rfl) ?_
  refine lv_iload hx hb dl_664 (lv_at hl 4 rfl) ?_
  refine lv_iconst (v := (2 : Int32)) hx hb dl_666 (by decide) ?_
  refine lv_iadd hx hb dl_667 ?_
  refine l_ld (k := 2) C hw hi (by decide) (by decide) dl_668 ?_
  refine r_callV (As := [.int (xs (i + 1)), .int (xs (i + 2))]) (rest := []) (st' := [.int v]) C.1 hw hl mwX11_would wd_505 wd_506 wd_504 (c_X11_would hf e1) (r_recv C.1 hw ct7 (o_0 hf)) rfl ⟨Nat.le_of_ble_eq_true rfl, Nat.le_of_ble_eq_true rfl⟩ (And.intro (by show _ ≤ 601024; omega) (by show _ ≤ 7293034; omega)) rfl rfl (Nat.le_of_ble_eq_true rfl) dl_669 (fun H locs hw => ?_)
  refine lv_aload_n hx hb dl_672 rfl (lv_at hl 2 rfl) ?_
  refine lv_aload_n hx hb dl_673 rfl (lv_at hl 0 rfl) ?_
  refine lv_iload hx hb dl_674 (lv_at hl 4 rfl) ?_
  refine lv_iconst (v := (1 : Int32)) hx hb dl_676 (by decide) ?_
  refine lv_iadd hx hb dl_677 ?_
  refine l_ld (k := 1) C hw hi (by decide) (by decide) dl_678 ?_
  refine lv_aload_n hx hb dl_679 rfl (lv_at hl 0 rfl) ?_
  refine lv_iload hx hb dl_680 (lv_at hl 4 rfl) ?_
  refine lv_iconst (v := (2 : Int32)) hx hb dl_682 (by decide) ?_
  refine lv_iadd hx hb dl_683 ?_
  refine l_ld (k := 2) C hw hi (by decide) (by decide) dl_684 ?_
  refine r_callV (As := [.int (xs (i + 1)), .int (xs (i + 2))]) (rest := [.int v]) (st' := [.int v, .int v]) C.1 hw hl mwX12_would wd_1348 wd_1349 wd_1347 (c_X12_would hf e2) (r_recv C.1 hw ct8 (o_300 hf)) rfl ⟨Nat.le_of_ble_eq_true rfl, Nat.le_of_ble_eq_true rfl⟩ (And.intro (by show _ ≤ 601024; omega) (by show _ ≤ 7293034; omega)) rfl rfl (Nat.le_of_ble_eq_true rfl) dl_685 (fun H locs hw => ?_)
  refine lv_icmp_eq (tgt := 1661) hx hb dl_688 (by decide) (fun hc => ?_) (fun hc => absurd rfl hc)
  exact W.widen (Nat.le_add_right _ _) (Nat.le_add_right _ _) (kk χ1 σ1 hR1 _ _ _ hw hl)
theorem l_case_14 {p : Program} {l : Launch} {e : Env} {s : State} {m : MethodId} {below : List Frame} {meth : Method} {c : Code} {b L : Nat} {xs : Nat → Int32} {G : gT} (C : LC p l s m meth c b L xs G) {i : Nat} (hi : i + 6 ≤ L) {cells slots : Nat} (hcs : cells + 1 ≤ 601024 ∧ slots + 6 ≤ 7293034) {Rel : St → St → Prop} (hok : ok_14 Rel) {χ σ : St} (hR : Rel χ σ)
    (kk : ∀ χ1 σ1, Rel χ1 σ1 → LAt p l e s m below meth c b G (cells + 1) (slots + 6) 1661 i χ1 σ1) : LAt p l e s m below meth c b G cells slots 693 i χ σ := by
  intro H locs ls hw hl
  have hx := C.1.1
  have hb := C.1.2.1
  have hf := C.2.2.2.2.2.2.2.1
  obtain ⟨v, χ1, σ1, e1, e2, hR1⟩ := hok χ σ (xs (i + 1)) (xs (i + 2)) hR
  refine lv_aload_n hx hb dl_693 rfl (lv_at hl 1 rfl) ?_
  refine lv_aload_n hx hb dl_694 rfl (lv_at hl 0 rfl) ?_
  refine lv_iload hx hb dl_695 (lv_at hl 4 rfl) ?_
  refine lv_iconst (v := (1 : Int32)) hx hb dl_697 (by decide) ?_
  refine lv_iadd hx hb dl_698 ?_
  refine l_ld (k := 1) C hw hi (by decide) (by decide) dl_699 ?_
  refine lv_aload_n hx hb dl_700 rfl (lv_at hl 0 rfl) ?_
  refine lv_iload hx hb dl_701 (lv_at hl 4 rfl) ?_
  refine lv_iconst (v := (2 : Int32)) hx hb dl_703 (by decide) ?_
  refine lv_iadd hx hb dl_704 ?_
  refine l_ld (k := 2) C hw hi (by decide) (by decide) dl_705 ?_
  refine r_callV (As := [.int (xs (i + 1)), .int (xs (i + 2))]) (rest := []) (st' := [.int v]) C.1 hw hl mwX11_words wd_514 wd_515 wd_513 (c_X11_words hf e1) (r_recv C.1 hw ct7 (o_0 hf)) rfl ⟨Nat.le_of_ble_eq_true rfl, Nat.le_of_ble_eq_true rfl⟩ (And.intro (by show _ ≤ 601024; omega) (by show _ ≤ 7293034; omega)) rfl rfl (Nat.le_of_ble_eq_true rfl) dl_706 (fun H locs hw => ?_)
  refine lv_aload_n hx hb dl_709 rfl (lv_at hl 2 rfl) ?_
  refine lv_aload_n hx hb dl_710 rfl (lv_at hl 0 rfl) ?_
  refine lv_iload hx hb dl_711 (lv_at hl 4 rfl) ?_
  refine lv_iconst (v := (1 : Int32)) hx hb dl_713 (by decide) ?_
  refine lv_iadd hx hb dl_714 ?_
  refine l_ld (k := 1) C hw hi (by decide) (by decide) dl_715 ?_
  refine lv_aload_n hx hb dl_716 rfl (lv_at hl 0 rfl) ?_
  refine lv_iload hx hb dl_717 (lv_at hl 4 rfl) ?_
  refine lv_iconst (v := (2 : Int32)) hx hb dl_719 (by decide) ?_
  refine lv_iadd hx hb dl_720 ?_
  refine l_ld (k := 2) C hw hi (by decide) (by decide) dl_721 ?_
  refine r_callV (As := [.int (xs (i + 1)), .int (xs (i + 2))]) (rest := [.int v]) (st' := [.int v, .int v]) C.1 hw hl mwX12_words wd_1356 wd_1357 wd_1355 (c_X12_words hf e2) (r_recv C.1 hw ct8 (o_300 hf)) rfl ⟨Nat.le_of_ble_eq_true rfl, Nat.le_of_ble_eq_true rfl⟩ (And.intro (by show _ ≤ 601024; omega) (by show _ ≤ 7293034; omega)) rfl rfl (Nat.le_of_ble_eq_true rfl) dl_722 (fun H locs hw => ?_)
  refine lv_icmp_eq (tgt := 1661) hx hb dl_725 (by decide) (fun hc => ?_) (fun hc => absurd rfl hc)
  exact W.widen (Nat.le_add_right _ _) (Nat.le_add_right _ _) (kk χ1 σ1 hR1 _ _ _ hw hl)
theorem l_case_15 {p : Program} {l : Launch} {e : Env} {s : State} {m : MethodId} {below : List Frame} {meth : Method} {c : Code} {b L : Nat} {xs : Nat → Int32} {G : gT} (C : LC p l s m meth c b L xs G) {i : Nat} (hi : i + 6 ≤ L) {cells slots : Nat} (hcs : cells + 1 ≤ 601024 ∧ slots + 6 ≤ 7293034) {Rel : St → St → Prop} (hok : ok_15 Rel) {χ σ : St} (hR : Rel χ σ)
    (kk : ∀ χ1 σ1, Rel χ1 σ1 → LAt p l e s m below meth c b G (cells + 1) (slots + 6) 1661 i χ1 σ1) : LAt p l e s m below meth c b G cells slots 730 i χ σ := by
  intro H locs ls hw hl
  have hx := C.1.1
  have hb := C.1.2.1
  have hf := C.2.2.2.2.2.2.2.1
  obtain ⟨v, χ1, σ1, e1, e2, hR1⟩ := hok χ σ hR
  refine lv_aload_n hx hb dl_730 rfl (lv_at hl 1 rfl) ?_
  refine r_callV (As := []) (rest := []) (st' := [.int v]) C.1 hw hl mwX11_honest wd_518 wd_519 wd_517 (c_X11_honest hf e1) (r_recv C.1 hw ct7 (o_0 hf)) rfl ⟨Nat.le_of_ble_eq_true rfl, Nat.le_of_ble_eq_true rfl⟩ (And.intro (by show _ ≤ 601024; omega) (by show _ ≤ 7293034; omega)) rfl rfl (Nat.le_of_ble_eq_true rfl) dl_731 (fun H locs hw => ?_)
  refine lv_aload_n hx hb dl_734 rfl (lv_at hl 2 rfl) ?_
  refine r_callV (As := []) (rest := [.int v]) (st' := [.int v, .int v]) C.1 hw hl mwX12_honest wd_1361 wd_1362 wd_1360 (c_X12_honest hf e2) (r_recv C.1 hw ct8 (o_300 hf)) rfl ⟨Nat.le_of_ble_eq_true rfl, Nat.le_of_ble_eq_true rfl⟩ (And.intro (by show _ ≤ 601024; omega) (by show _ ≤ 7293034; omega)) rfl rfl (Nat.le_of_ble_eq_true rfl) dl_735 (fun H locs hw => ?_)
  refine lv_icmp_eq (tgt := 1661) hx hb dl_738 (by decide) (fun hc => ?_) (fun hc => absurd rfl hc)
  exact W.widen (Nat.le_add_right _ _) (Nat.le_add_right _ _) (kk χ1 σ1 hR1 _ _ _ hw hl)
theorem l_case_16 {p : Program} {l : Launch} {e : Env} {s : State} {m : MethodId} {below : List Frame} {meth : Method} {c : Code} {b L : Nat} {xs : Nat → Int32} {G : gT} (C : LC p l s m meth c b L xs G) {i : Nat} (hi : i + 6 ≤ L) {cells slots : Nat} (hcs : cells + 1 ≤ 601024 ∧ slots + 6 ≤ 7293034) {Rel : St → St → Prop} (hok : ok_16 Rel) {χ σ : St} (hR : Rel χ σ)
    (kk : ∀ χ1 σ1, Rel χ1 σ1 → LAt p l e s m below meth c b G (cells + 1) (slots + 6) 1661 i χ1 σ1) : LAt p l e s m below meth c b G cells slots 743 i χ σ := by
  intro H locs ls hw hl
  have hx := C.1.1
  have hb := C.1.2.1
  have hf := C.2.2.2.2.2.2.2.1
  obtain ⟨v, χ1, σ1, e1, e2, hR1⟩ := hok χ σ (xs (i + 1)) (xs (i + 2)) hR
  refine lv_aload_n hx hb dl_743 rfl (lv_at hl 1 rfl) ?_
  refine lv_aload_n hx hb dl_744 rfl (lv_at hl 0 rfl) ?_
  refine lv_iload hx hb dl_745 (lv_at hl 4 rfl) ?_
  refine lv_iconst (v := (1 : Int32)) hx hb dl_747 (by decide) ?_
  refine lv_iadd hx hb dl_748 ?_
  refine l_ld (k := 1) C hw hi (by decide) (by decide) dl_749 ?_
  refine lv_aload_n hx hb dl_750 rfl (lv_at hl 0 rfl) ?_
  refine lv_iload hx hb dl_751 (lv_at hl 4 rfl) ?_
  refine lv_iconst (v := (2 : Int32)) hx hb dl_753 (by decide) ?_
  refine lv_iadd hx hb dl_754 ?_
  refine l_ld (k := 2) C hw hi (by decide) (by decide) dl_755 ?_
  refine r_callV (As := [.int (xs (i + 1)), .int (xs (i + 2))]) (rest := []) (st' := [.int v]) C.1 hw hl mwX11_shyest wd_526 wd_527 wd_525 (c_X11_shyest hf e1) (r_recv C.1 hw ct7 (o_0 hf)) rfl ⟨Nat.le_of_ble_eq_true rfl, Nat.le_of_ble_eq_true rfl⟩ (And.intro (by show _ ≤ 601024; omega) (by show _ ≤ 7293034; omega)) rfl rfl (Nat.le_of_ble_eq_true rfl) dl_756 (fun H locs hw => ?_)
  refine lv_aload_n hx hb dl_759 rfl (lv_at hl 2 rfl) ?_
  refine lv_aload_n hx hb dl_760 rfl (lv_at hl 0 rfl) ?_
  refine lv_iload hx hb dl_761 (lv_at hl 4 rfl) ?_
  refine lv_iconst (v := (1 : Int32)) hx hb dl_763 (by decide) ?_
  refine lv_iadd hx hb dl_764 ?_
  refine l_ld (k := 1) C hw hi (by decide) (by decide) dl_765 ?_
  refine lv_aload_n hx hb dl_766 rfl (lv_at hl 0 rfl) ?_
  refine lv_iload hx hb dl_767 (lv_at hl 4 rfl) ?_
  refine lv_iconst (v := (2 : Int32)) hx hb dl_769 (by decide) ?_
  refine lv_iadd hx hb dl_770 ?_
  refine l_ld (k := 2) C hw hi (by decide) (by decide) dl_771 ?_
  refine r_callV (As := [.int (xs (i + 1)), .int (xs (i + 2))]) (rest := [.int v]) (st' := [.int v, .int v]) C.1 hw hl mwX12_shyest wd_1370 wd_1371 wd_1369 (c_X12_shyest hf e2) (r_recv C.1 hw ct8 (o_300 hf)) rfl ⟨Nat.le_of_ble_eq_true rfl, Nat.le_of_ble_eq_true rfl⟩ (And.intro (by show _ ≤ 601024; omega) (by show _ ≤ 7293034; omega)) rfl rfl (Nat.le_of_ble_eq_true rfl) dl_772 (fun H locs hw => ?_)
  refine lv_icmp_eq (tgt := 1661) hx hb dl_775 (by decide) (fun hc => ?_) (fun hc => absurd rfl hc)
  exact W.widen (Nat.le_add_right _ _) (Nat.le_add_right _ _) (kk χ1 σ1 hR1 _ _ _ hw hl)
theorem l_case_17 {p : Program} {l : Launch} {e : Env} {s : State} {m : MethodId} {below : List Frame} {meth : Method} {c : Code} {b L : Nat} {xs : Nat → Int32} {G : gT} (C : LC p l s m meth c b L xs G) {i : Nat} (hi : i + 6 ≤ L) {cells slots : Nat} (hcs : cells + 1 ≤ 601024 ∧ slots + 6 ≤ 7293034) {Rel : St → St → Prop} (hok : ok_17 Rel) {χ σ : St} (hR : Rel χ σ)
    (kk : ∀ χ1 σ1, Rel χ1 σ1 → LAt p l e s m below meth c b G (cells + 1) (slots + 6) 1661 i χ1 σ1) : LAt p l e s m below meth c b G cells slots 780 i χ σ := by
  intro H locs ls hw hl
  have hx := C.1.1
  have hb := C.1.2.1
  have hf := C.2.2.2.2.2.2.2.1
  obtain ⟨v, χ1, σ1, e1, e2, hR1⟩ := hok χ σ hR
  refine lv_aload_n hx hb dl_780 rfl (lv_at hl 1 rfl) ?_
  refine r_callV (As := []) (rest := []) (st' := [.int v]) C.1 hw hl mwX11_loudest wd_534 wd_535 wd_533 (c_X11_loudest hf e1) (r_recv C.1 hw ct7 (o_0 hf)) rfl ⟨Nat.le_of_ble_eq_true rfl, Nat.le_of_ble_eq_true rfl⟩ (And.intro (by show _ ≤ 601024; omega) (by show _ ≤ 7293034; omega)) rfl rfl (Nat.le_of_ble_eq_true rfl) dl_781 (fun H locs hw => ?_)
  refine lv_aload_n hx hb dl_784 rfl (lv_at hl 2 rfl) ?_
  refine r_callV (As := []) (rest := [.int v]) (st' := [.int v, .int v]) C.1 hw hl mwX12_loudest wd_1365 wd_1366 wd_1364 (c_X12_loudest hf e2) (r_recv C.1 hw ct8 (o_300 hf)) rfl ⟨Nat.le_of_ble_eq_true rfl, Nat.le_of_ble_eq_true rfl⟩ (And.intro (by show _ ≤ 601024; omega) (by show _ ≤ 7293034; omega)) rfl rfl (Nat.le_of_ble_eq_true rfl) dl_785 (fun H locs hw => ?_)
  refine lv_icmp_eq (tgt := 1661) hx hb dl_788 (by decide) (fun hc => ?_) (fun hc => absurd rfl hc)
  exact W.widen (Nat.le_add_right _ _) (Nat.le_add_right _ _) (kk χ1 σ1 hR1 _ _ _ hw hl)
theorem l_case_18 {p : Program} {l : Launch} {e : Env} {s : State} {m : MethodId} {below : List Frame} {meth : Method} {c : Code} {b L : Nat} {xs : Nat → Int32} {G : gT} (C : LC p l s m meth c b L xs G) {i : Nat} (hi : i + 6 ≤ L) {cells slots : Nat} (hcs : cells + 1 ≤ 601024 ∧ slots + 6 ≤ 7293034) {Rel : St → St → Prop} (hok : ok_18 Rel) {χ σ : St} (hR : Rel χ σ)
    (kk : ∀ χ1 σ1, Rel χ1 σ1 → LAt p l e s m below meth c b G (cells + 1) (slots + 6) 1661 i χ1 σ1) : LAt p l e s m below meth c b G cells slots 793 i χ σ := by
  intro H locs ls hw hl
  have hx := C.1.1
  have hb := C.1.2.1
  have hf := C.2.2.2.2.2.2.2.1
  obtain ⟨v, χ1, σ1, e1, e2, hR1⟩ := hok χ σ (xs (i + 1)) (xs (i + 2)) (xs (i + 3)) hR
  refine lv_aload_n hx hb dl_793 rfl (lv_at hl 1 rfl) ?_
  refine lv_aload_n hx hb dl_794 rfl (lv_at hl 0 rfl) ?_
  refine lv_iload hx hb dl_795 (lv_at hl 4 rfl) ?_
  refine lv_iconst (v := (1 : Int32)) hx hb dl_797 (by decide) ?_
  refine lv_iadd hx hb dl_798 ?_
  refine l_ld (k := 1) C hw hi (by decide) (by decide) dl_799 ?_
  refine lv_aload_n hx hb dl_800 rfl (lv_at hl 0 rfl) ?_
  refine lv_iload hx hb dl_801 (lv_at hl 4 rfl) ?_
  refine lv_iconst (v := (2 : Int32)) hx hb dl_803 (by decide) ?_
  refine lv_iadd hx hb dl_804 ?_
  refine l_ld (k := 2) C hw hi (by decide) (by decide) dl_805 ?_
  refine lv_aload_n hx hb dl_806 rfl (lv_at hl 0 rfl) ?_
  refine lv_iload hx hb dl_807 (lv_at hl 4 rfl) ?_
  refine lv_iconst (v := (3 : Int32)) hx hb dl_809 (by decide) ?_
  refine lv_iadd hx hb dl_810 ?_
  refine l_ld (k := 3) C hw hi (by decide) (by decide) dl_811 ?_
  refine r_callV (As := [.int (xs (i + 1)), .int (xs (i + 2)), .int (xs (i + 3))]) (rest := []) (st' := [.int v]) C.1 hw hl mwX11_repeats wd_539 wd_540 wd_538 (c_X11_repeats hf e1) (r_recv C.1 hw ct7 (o_0 hf)) rfl ⟨Nat.le_of_ble_eq_true rfl, Nat.le_of_ble_eq_true rfl⟩ (And.intro (by show _ ≤ 601024; omega) (by show _ ≤ 7293034; omega)) rfl rfl (Nat.le_of_ble_eq_true rfl) dl_812 (fun H locs hw => ?_)
  refine lv_aload_n hx hb dl_815 rfl (lv_at hl 2 rfl) ?_
  refine lv_aload_n hx hb dl_816 rfl (lv_at hl 0 rfl) ?_
  refine lv_iload hx hb dl_817 (lv_at hl 4 rfl) ?_
  refine lv_iconst (v := (1 : Int32)) hx hb dl_819 (by decide) ?_
  refine lv_iadd hx hb dl_820 ?_
  refine l_ld (k := 1) C hw hi (by decide) (by decide) dl_821 ?_
  refine lv_aload_n hx hb dl_822 rfl (lv_at hl 0 rfl) ?_
  refine lv_iload hx hb dl_823 (lv_at hl 4 rfl) ?_
  refine lv_iconst (v := (2 : Int32)) hx hb dl_825 (by decide) ?_
  refine lv_iadd hx hb dl_826 ?_
  refine l_ld (k := 2) C hw hi (by decide) (by decide) dl_827 ?_
  refine lv_aload_n hx hb dl_828 rfl (lv_at hl 0 rfl) ?_
  refine lv_iload hx hb dl_829 (lv_at hl 4 rfl) ?_
  refine lv_iconst (v := (3 : Int32)) hx hb dl_831 (by decide) ?_
  refine lv_iadd hx hb dl_832 ?_
  refine l_ld (k := 3) C hw hi (by decide) (by decide) dl_833 ?_
  refine r_callV (As := [.int (xs (i + 1)), .int (xs (i + 2)), .int (xs (i + 3))]) (rest := [.int v]) (st' := [.int v, .int v]) C.1 hw hl mwX12_repeats wd_1374 wd_1375 wd_1373 (c_X12_repeats hf e2) (r_recv C.1 hw ct8 (o_300 hf)) rfl ⟨Nat.le_of_ble_eq_true rfl, Nat.le_of_ble_eq_true rfl⟩ (And.intro (by show _ ≤ 601024; omega) (by show _ ≤ 7293034; omega)) rfl rfl (Nat.le_of_ble_eq_true rfl) dl_834 (fun H locs hw => ?_)
  refine lv_icmp_eq (tgt := 1661) hx hb dl_837 (by decide) (fun hc => ?_) (fun hc => absurd rfl hc)
  exact W.widen (Nat.le_add_right _ _) (Nat.le_add_right _ _) (kk χ1 σ1 hR1 _ _ _ hw hl)
theorem l_case_19 {p : Program} {l : Launch} {e : Env} {s : State} {m : MethodId} {below : List Frame} {meth : Method} {c : Code} {b L : Nat} {xs : Nat → Int32} {G : gT} (C : LC p l s m meth c b L xs G) {i : Nat} (hi : i + 6 ≤ L) {cells slots : Nat} (hcs : cells + 1 ≤ 601024 ∧ slots + 6 ≤ 7293034) {Rel : St → St → Prop} (hok : ok_19 Rel) {χ σ : St} (hR : Rel χ σ)
    (kk : ∀ χ1 σ1, Rel χ1 σ1 → LAt p l e s m below meth c b G (cells + 1) (slots + 6) 1661 i χ1 σ1) : LAt p l e s m below meth c b G cells slots 842 i χ σ := by
  intro H locs ls hw hl
  have hx := C.1.1
  have hb := C.1.2.1
  have hf := C.2.2.2.2.2.2.2.1
  obtain ⟨v, χ1, σ1, e1, e2, hR1⟩ := hok χ σ (xs (i + 1)) hR
  refine lv_aload_n hx hb dl_842 rfl (lv_at hl 1 rfl) ?_
  refine lv_aload_n hx hb dl_843 rfl (lv_at hl 0 rfl) ?_
  refine lv_iload hx hb dl_844 (lv_at hl 4 rfl) ?_
  refine lv_iconst (v := (1 : Int32)) hx hb dl_846 (by decide) ?_
  refine lv_iadd hx hb dl_847 ?_
  refine l_ld (k := 1) C hw hi (by decide) (by decide) dl_848 ?_
  refine r_callV (As := [.int (xs (i + 1))]) (rest := []) (st' := [.int v]) C.1 hw hl mwX11_later wd_543 wd_544 wd_542 (c_X11_later hf e1) (r_recv C.1 hw ct7 (o_0 hf)) rfl ⟨Nat.le_of_ble_eq_true rfl, Nat.le_of_ble_eq_true rfl⟩ (And.intro (by show _ ≤ 601024; omega) (by show _ ≤ 7293034; omega)) rfl rfl (Nat.le_of_ble_eq_true rfl) dl_849 (fun H locs hw => ?_)
  refine lv_aload_n hx hb dl_852 rfl (lv_at hl 2 rfl) ?_
  refine lv_aload_n hx hb dl_853 rfl (lv_at hl 0 rfl) ?_
  refine lv_iload hx hb dl_854 (lv_at hl 4 rfl) ?_
  refine lv_iconst (v := (1 : Int32)) hx hb dl_856 (by decide) ?_
  refine lv_iadd hx hb dl_857 ?_
  refine l_ld (k := 1) C hw hi (by decide) (by decide) dl_858 ?_
  refine r_callV (As := [.int (xs (i + 1))]) (rest := [.int v]) (st' := [.int v, .int v]) C.1 hw hl mwX12_later wd_1383 wd_1384 wd_1382 (c_X12_later hf e2) (r_recv C.1 hw ct8 (o_300 hf)) rfl ⟨Nat.le_of_ble_eq_true rfl, Nat.le_of_ble_eq_true rfl⟩ (And.intro (by show _ ≤ 601024; omega) (by show _ ≤ 7293034; omega)) rfl rfl (Nat.le_of_ble_eq_true rfl) dl_859 (fun H locs hw => ?_)
  refine lv_icmp_eq (tgt := 1661) hx hb dl_862 (by decide) (fun hc => ?_) (fun hc => absurd rfl hc)
  exact W.widen (Nat.le_add_right _ _) (Nat.le_add_right _ _) (kk χ1 σ1 hR1 _ _ _ hw hl)
theorem l_case_20 {p : Program} {l : Launch} {e : Env} {s : State} {m : MethodId} {below : List Frame} {meth : Method} {c : Code} {b L : Nat} {xs : Nat → Int32} {G : gT} (C : LC p l s m meth c b L xs G) {i : Nat} (hi : i + 6 ≤ L) {cells slots : Nat} (hcs : cells + 1 ≤ 601024 ∧ slots + 6 ≤ 7293034) {Rel : St → St → Prop} (hok : ok_20 Rel) {χ σ : St} (hR : Rel χ σ)
    (kk : ∀ χ1 σ1, Rel χ1 σ1 → LAt p l e s m below meth c b G (cells + 1) (slots + 6) 1661 i χ1 σ1) : LAt p l e s m below meth c b G cells slots 867 i χ σ := by
  intro H locs ls hw hl
  have hx := C.1.1
  have hb := C.1.2.1
  have hf := C.2.2.2.2.2.2.2.1
  obtain ⟨v, σ1, e1, e2, hR1⟩ := hok χ σ hR
  refine lv_aload_n hx hb dl_867 rfl (lv_at hl 1 rfl) ?_
  refine r_callV (As := []) (rest := []) (st' := [.int v]) C.1 hw hl mwX11_calm wd_548 wd_549 wd_547 (c_X11_calm hf e1) (r_recv C.1 hw ct7 (o_0 hf)) rfl ⟨Nat.le_of_ble_eq_true rfl, Nat.le_of_ble_eq_true rfl⟩ (And.intro (by show _ ≤ 601024; omega) (by show _ ≤ 7293034; omega)) rfl rfl (Nat.le_of_ble_eq_true rfl) dl_868 (fun H locs hw => ?_)
  refine lv_aload_n hx hb dl_871 rfl (lv_at hl 2 rfl) ?_
  refine r_callV (As := []) (rest := [.int v]) (st' := [.int v, .int v]) C.1 hw hl mwX12_calm wd_1388 wd_1389 wd_1387 (c_X12_calm hf e2) (r_recv C.1 hw ct8 (o_300 hf)) rfl ⟨Nat.le_of_ble_eq_true rfl, Nat.le_of_ble_eq_true rfl⟩ (And.intro (by show _ ≤ 601024; omega) (by show _ ≤ 7293034; omega)) rfl rfl (Nat.le_of_ble_eq_true rfl) dl_872 (fun H locs hw => ?_)
  refine lv_icmp_eq (tgt := 1661) hx hb dl_875 (by decide) (fun hc => ?_) (fun hc => absurd rfl hc)
  exact W.widen (Nat.le_add_right _ _) (Nat.le_add_right _ _) (kk χ σ1 hR1 _ _ _ hw hl)
theorem l_case_21 {p : Program} {l : Launch} {e : Env} {s : State} {m : MethodId} {below : List Frame} {meth : Method} {c : Code} {b L : Nat} {xs : Nat → Int32} {G : gT} (C : LC p l s m meth c b L xs G) {i : Nat} (hi : i + 6 ≤ L) {cells slots : Nat} (hcs : cells + 1 ≤ 601024 ∧ slots + 6 ≤ 7293034) {Rel : St → St → Prop} (hok : ok_21 Rel) {χ σ : St} (hR : Rel χ σ)
    (kk : ∀ χ1 σ1, Rel χ1 σ1 → LAt p l e s m below meth c b G (cells + 1) (slots + 6) 1661 i χ1 σ1) : LAt p l e s m below meth c b G cells slots 880 i χ σ := by
  intro H locs ls hw hl
  have hx := C.1.1
  have hb := C.1.2.1
  have hf := C.2.2.2.2.2.2.2.1
  obtain ⟨v, χ1, σ1, e1, e2, hR1⟩ := hok χ σ (xs (i + 1)) hR
  refine lv_aload_n hx hb dl_880 rfl (lv_at hl 1 rfl) ?_
  refine lv_aload_n hx hb dl_881 rfl (lv_at hl 0 rfl) ?_
  refine lv_iload hx hb dl_882 (lv_at hl 4 rfl) ?_
  refine lv_iconst (v := (1 : Int32)) hx hb dl_884 (by decide) ?_
  refine lv_iadd hx hb dl_885 ?_
  refine l_ld (k := 1) C hw hi (by decide) (by decide) dl_886 ?_
  refine r_callV (As := [.int (xs (i + 1))]) (rest := []) (st' := [.int v]) C.1 hw hl mwX11_opens wd_553 wd_554 wd_552 (c_X11_opens hf e1) (r_recv C.1 hw ct7 (o_0 hf)) rfl ⟨Nat.le_of_ble_eq_true rfl, Nat.le_of_ble_eq_true rfl⟩ (And.intro (by show _ ≤ 601024; omega) (by show _ ≤ 7293034; omega)) rfl rfl (Nat.le_of_ble_eq_true rfl) dl_887 (fun H locs hw => ?_)
  refine lv_aload_n hx hb dl_890 rfl (lv_at hl 2 rfl) ?_
  refine lv_aload_n hx hb dl_891 rfl (lv_at hl 0 rfl) ?_
  refine lv_iload hx hb dl_892 (lv_at hl 4 rfl) ?_
  refine lv_iconst (v := (1 : Int32)) hx hb dl_894 (by decide) ?_
  refine lv_iadd hx hb dl_895 ?_
  refine l_ld (k := 1) C hw hi (by decide) (by decide) dl_896 ?_
  refine r_callV (As := [.int (xs (i + 1))]) (rest := [.int v]) (st' := [.int v, .int v]) C.1 hw hl mwX12_opens wd_1392 wd_1393 wd_1391 (c_X12_opens hf e2) (r_recv C.1 hw ct8 (o_300 hf)) rfl ⟨Nat.le_of_ble_eq_true rfl, Nat.le_of_ble_eq_true rfl⟩ (And.intro (by show _ ≤ 601024; omega) (by show _ ≤ 7293034; omega)) rfl rfl (Nat.le_of_ble_eq_true rfl) dl_897 (fun H locs hw => ?_)
  refine lv_icmp_eq (tgt := 1661) hx hb dl_900 (by decide) (fun hc => ?_) (fun hc => absurd rfl hc)
  exact W.widen (Nat.le_add_right _ _) (Nat.le_add_right _ _) (kk χ1 σ1 hR1 _ _ _ hw hl)
theorem l_case_22 {p : Program} {l : Launch} {e : Env} {s : State} {m : MethodId} {below : List Frame} {meth : Method} {c : Code} {b L : Nat} {xs : Nat → Int32} {G : gT} (C : LC p l s m meth c b L xs G) {i : Nat} (hi : i + 6 ≤ L) {cells slots : Nat} (hcs : cells + 1 ≤ 601024 ∧ slots + 6 ≤ 7293034) {Rel : St → St → Prop} (hok : ok_22 Rel) {χ σ : St} (hR : Rel χ σ)
    (kk : ∀ χ1 σ1, Rel χ1 σ1 → LAt p l e s m below meth c b G (cells + 1) (slots + 6) 1661 i χ1 σ1) : LAt p l e s m below meth c b G cells slots 905 i χ σ := by
  intro H locs ls hw hl
  have hx := C.1.1
  have hb := C.1.2.1
  have hf := C.2.2.2.2.2.2.2.1
  obtain ⟨v, χ1, σ1, e1, e2, hR1⟩ := hok χ σ hR
  refine lv_aload_n hx hb dl_905 rfl (lv_at hl 1 rfl) ?_
  refine r_callV (As := []) (rest := []) (st' := [.int v]) C.1 hw hl mwX11_line wd_558 wd_559 wd_557 (c_X11_line hf e1) (r_recv C.1 hw ct7 (o_0 hf)) rfl ⟨Nat.le_of_ble_eq_true rfl, Nat.le_of_ble_eq_true rfl⟩ (And.intro (by show _ ≤ 601024; omega) (by show _ ≤ 7293034; omega)) rfl rfl (Nat.le_of_ble_eq_true rfl) dl_906 (fun H locs hw => ?_)
  refine lv_aload_n hx hb dl_909 rfl (lv_at hl 2 rfl) ?_
  refine r_callV (As := []) (rest := [.int v]) (st' := [.int v, .int v]) C.1 hw hl mwX12_line wd_1396 wd_1397 wd_1395 (c_X12_line hf e2) (r_recv C.1 hw ct8 (o_300 hf)) rfl ⟨Nat.le_of_ble_eq_true rfl, Nat.le_of_ble_eq_true rfl⟩ (And.intro (by show _ ≤ 601024; omega) (by show _ ≤ 7293034; omega)) rfl rfl (Nat.le_of_ble_eq_true rfl) dl_910 (fun H locs hw => ?_)
  refine lv_icmp_eq (tgt := 1661) hx hb dl_913 (by decide) (fun hc => ?_) (fun hc => absurd rfl hc)
  exact W.widen (Nat.le_add_right _ _) (Nat.le_add_right _ _) (kk χ1 σ1 hR1 _ _ _ hw hl)
theorem l_case_23 {p : Program} {l : Launch} {e : Env} {s : State} {m : MethodId} {below : List Frame} {meth : Method} {c : Code} {b L : Nat} {xs : Nat → Int32} {G : gT} (C : LC p l s m meth c b L xs G) {i : Nat} (hi : i + 6 ≤ L) {cells slots : Nat} (hcs : cells + 1 ≤ 601024 ∧ slots + 6 ≤ 7293034) {Rel : St → St → Prop} (hok : ok_23 Rel) {χ σ : St} (hR : Rel χ σ)
    (kk : ∀ χ1 σ1, Rel χ1 σ1 → LAt p l e s m below meth c b G (cells + 1) (slots + 6) 1661 i χ1 σ1) : LAt p l e s m below meth c b G cells slots 918 i χ σ := by
  intro H locs ls hw hl
  have hx := C.1.1
  have hb := C.1.2.1
  have hf := C.2.2.2.2.2.2.2.1
  obtain ⟨v, χ1, σ1, e1, e2, hR1⟩ := hok χ σ (xs (i + 1)) hR
  refine lv_aload_n hx hb dl_918 rfl (lv_at hl 1 rfl) ?_
  refine lv_aload_n hx hb dl_919 rfl (lv_at hl 0 rfl) ?_
  refine lv_iload hx hb dl_920 (lv_at hl 4 rfl) ?_
  refine lv_iconst (v := (1 : Int32)) hx hb dl_922 (by decide) ?_
  refine lv_iadd hx hb dl_923 ?_
  refine l_ld (k := 1) C hw hi (by decide) (by decide) dl_924 ?_
  refine r_callV (As := [.int (xs (i + 1))]) (rest := []) (st' := [.int v]) C.1 hw hl mwX11_yes wd_562 wd_563 wd_561 (c_X11_yes hf e1) (r_recv C.1 hw ct7 (o_0 hf)) rfl ⟨Nat.le_of_ble_eq_true rfl, Nat.le_of_ble_eq_true rfl⟩ (And.intro (by show _ ≤ 601024; omega) (by show _ ≤ 7293034; omega)) rfl rfl (Nat.le_of_ble_eq_true rfl) dl_925 (fun H locs hw => ?_)
  refine lv_aload_n hx hb dl_928 rfl (lv_at hl 2 rfl) ?_
  refine lv_aload_n hx hb dl_929 rfl (lv_at hl 0 rfl) ?_
  refine lv_iload hx hb dl_930 (lv_at hl 4 rfl) ?_
  refine lv_iconst (v := (1 : Int32)) hx hb dl_932 (by decide) ?_
  refine lv_iadd hx hb dl_933 ?_
  refine l_ld (k := 1) C hw hi (by decide) (by decide) dl_934 ?_
  refine r_callV (As := [.int (xs (i + 1))]) (rest := [.int v]) (st' := [.int v, .int v]) C.1 hw hl mwX12_yes wd_1400 wd_1401 wd_1399 (c_X12_yes hf e2) (r_recv C.1 hw ct8 (o_300 hf)) rfl ⟨Nat.le_of_ble_eq_true rfl, Nat.le_of_ble_eq_true rfl⟩ (And.intro (by show _ ≤ 601024; omega) (by show _ ≤ 7293034; omega)) rfl rfl (Nat.le_of_ble_eq_true rfl) dl_935 (fun H locs hw => ?_)
  refine lv_icmp_eq (tgt := 1661) hx hb dl_938 (by decide) (fun hc => ?_) (fun hc => absurd rfl hc)
  exact W.widen (Nat.le_add_right _ _) (Nat.le_add_right _ _) (kk χ1 σ1 hR1 _ _ _ hw hl)
theorem l_case_24 {p : Program} {l : Launch} {e : Env} {s : State} {m : MethodId} {below : List Frame} {meth : Method} {c : Code} {b L : Nat} {xs : Nat → Int32} {G : gT} (C : LC p l s m meth c b L xs G) {i : Nat} (hi : i + 6 ≤ L) {cells slots : Nat} (hcs : cells + 1 ≤ 601024 ∧ slots + 6 ≤ 7293034) {Rel : St → St → Prop} (hok : ok_24 Rel) {χ σ : St} (hR : Rel χ σ)
    (kk : ∀ χ1 σ1, Rel χ1 σ1 → LAt p l e s m below meth c b G (cells + 1) (slots + 6) 1661 i χ1 σ1) : LAt p l e s m below meth c b G cells slots 943 i χ σ := by
  intro H locs ls hw hl
  have hx := C.1.1
  have hb := C.1.2.1
  have hf := C.2.2.2.2.2.2.2.1
  obtain ⟨v, χ1, σ1, e1, e2, hR1⟩ := hok χ σ hR
  refine lv_aload_n hx hb dl_943 rfl (lv_at hl 1 rfl) ?_
  refine r_callV (As := []) (rest := []) (st' := [.int v]) C.1 hw hl mwX11_whole wd_566 wd_567 wd_565 (c_X11_whole hf e1) (r_recv C.1 hw ct7 (o_0 hf)) rfl ⟨Nat.le_of_ble_eq_true rfl, Nat.le_of_ble_eq_true rfl⟩ (And.intro (by show _ ≤ 601024; omega) (by show _ ≤ 7293034; omega)) rfl rfl (Nat.le_of_ble_eq_true rfl) dl_944 (fun H locs hw => ?_)
  refine lv_aload_n hx hb dl_947 rfl (lv_at hl 2 rfl) ?_
  refine r_callV (As := []) (rest := [.int v]) (st' := [.int v, .int v]) C.1 hw hl mwX12_whole wd_1404 wd_1405 wd_1403 (c_X12_whole hf e2) (r_recv C.1 hw ct8 (o_300 hf)) rfl ⟨Nat.le_of_ble_eq_true rfl, Nat.le_of_ble_eq_true rfl⟩ (And.intro (by show _ ≤ 601024; omega) (by show _ ≤ 7293034; omega)) rfl rfl (Nat.le_of_ble_eq_true rfl) dl_948 (fun H locs hw => ?_)
  refine lv_icmp_eq (tgt := 1661) hx hb dl_951 (by decide) (fun hc => ?_) (fun hc => absurd rfl hc)
  exact W.widen (Nat.le_add_right _ _) (Nat.le_add_right _ _) (kk χ1 σ1 hR1 _ _ _ hw hl)
theorem l_case_25 {p : Program} {l : Launch} {e : Env} {s : State} {m : MethodId} {below : List Frame} {meth : Method} {c : Code} {b L : Nat} {xs : Nat → Int32} {G : gT} (C : LC p l s m meth c b L xs G) {i : Nat} (hi : i + 6 ≤ L) {cells slots : Nat} (hcs : cells + 1 ≤ 601024 ∧ slots + 6 ≤ 7293034) {Rel : St → St → Prop} (hok : ok_25 Rel) {χ σ : St} (hR : Rel χ σ)
    (kk : ∀ χ1 σ1, Rel χ1 σ1 → LAt p l e s m below meth c b G (cells + 1) (slots + 6) 1661 i χ1 σ1) : LAt p l e s m below meth c b G cells slots 956 i χ σ := by
  intro H locs ls hw hl
  have hx := C.1.1
  have hb := C.1.2.1
  have hf := C.2.2.2.2.2.2.2.1
  obtain ⟨v, χ1, σ1, e1, e2, hR1⟩ := hok χ σ hR
  refine lv_aload_n hx hb dl_956 rfl (lv_at hl 1 rfl) ?_
  refine r_callV (As := []) (rest := []) (st' := [.int v]) C.1 hw hl mwX11_middle wd_585 wd_586 wd_584 (c_X11_middle hf e1) (r_recv C.1 hw ct7 (o_0 hf)) rfl ⟨Nat.le_of_ble_eq_true rfl, Nat.le_of_ble_eq_true rfl⟩ (And.intro (by show _ ≤ 601024; omega) (by show _ ≤ 7293034; omega)) rfl rfl (Nat.le_of_ble_eq_true rfl) dl_957 (fun H locs hw => ?_)
  refine lv_aload_n hx hb dl_960 rfl (lv_at hl 2 rfl) ?_
  refine r_callV (As := []) (rest := [.int v]) (st' := [.int v, .int v]) C.1 hw hl mwX12_middle wd_1416 wd_1417 wd_1415 (c_X12_middle hf e2) (r_recv C.1 hw ct8 (o_300 hf)) rfl ⟨Nat.le_of_ble_eq_true rfl, Nat.le_of_ble_eq_true rfl⟩ (And.intro (by show _ ≤ 601024; omega) (by show _ ≤ 7293034; omega)) rfl rfl (Nat.le_of_ble_eq_true rfl) dl_961 (fun H locs hw => ?_)
  refine lv_icmp_eq (tgt := 1661) hx hb dl_964 (by decide) (fun hc => ?_) (fun hc => absurd rfl hc)
  exact W.widen (Nat.le_add_right _ _) (Nat.le_add_right _ _) (kk χ1 σ1 hR1 _ _ _ hw hl)
theorem l_case_26 {p : Program} {l : Launch} {e : Env} {s : State} {m : MethodId} {below : List Frame} {meth : Method} {c : Code} {b L : Nat} {xs : Nat → Int32} {G : gT} (C : LC p l s m meth c b L xs G) {i : Nat} (hi : i + 6 ≤ L) {cells slots : Nat} (hcs : cells + 1 ≤ 601024 ∧ slots + 6 ≤ 7293034) {Rel : St → St → Prop} (hok : ok_26 Rel) {χ σ : St} (hR : Rel χ σ)
    (kk : ∀ χ1 σ1, Rel χ1 σ1 → LAt p l e s m below meth c b G (cells + 1) (slots + 6) 1661 i χ1 σ1) : LAt p l e s m below meth c b G cells slots 969 i χ σ := by
  intro H locs ls hw hl
  have hx := C.1.1
  have hb := C.1.2.1
  have hf := C.2.2.2.2.2.2.2.1
  obtain ⟨v, χ1, σ1, e1, e2, hR1⟩ := hok χ σ hR
  refine lv_aload_n hx hb dl_969 rfl (lv_at hl 1 rfl) ?_
  refine r_callV (As := []) (rest := []) (st' := [.int v]) C.1 hw hl mwX11_nearest wd_596 wd_597 wd_595 (c_X11_nearest hf e1) (r_recv C.1 hw ct7 (o_0 hf)) rfl ⟨Nat.le_of_ble_eq_true rfl, Nat.le_of_ble_eq_true rfl⟩ (And.intro (by show _ ≤ 601024; omega) (by show _ ≤ 7293034; omega)) rfl rfl (Nat.le_of_ble_eq_true rfl) dl_970 (fun H locs hw => ?_)
  refine lv_aload_n hx hb dl_973 rfl (lv_at hl 2 rfl) ?_
  refine r_callV (As := []) (rest := [.int v]) (st' := [.int v, .int v]) C.1 hw hl mwX12_nearest wd_1427 wd_1428 wd_1426 (c_X12_nearest hf e2) (r_recv C.1 hw ct8 (o_300 hf)) rfl ⟨Nat.le_of_ble_eq_true rfl, Nat.le_of_ble_eq_true rfl⟩ (And.intro (by show _ ≤ 601024; omega) (by show _ ≤ 7293034; omega)) rfl rfl (Nat.le_of_ble_eq_true rfl) dl_974 (fun H locs hw => ?_)
  refine lv_icmp_eq (tgt := 1661) hx hb dl_977 (by decide) (fun hc => ?_) (fun hc => absurd rfl hc)
  exact W.widen (Nat.le_add_right _ _) (Nat.le_add_right _ _) (kk χ1 σ1 hR1 _ _ _ hw hl)
theorem l_case_27 {p : Program} {l : Launch} {e : Env} {s : State} {m : MethodId} {below : List Frame} {meth : Method} {c : Code} {b L : Nat} {xs : Nat → Int32} {G : gT} (C : LC p l s m meth c b L xs G) {i : Nat} (hi : i + 6 ≤ L) {cells slots : Nat} (hcs : cells + 1 ≤ 601024 ∧ slots + 6 ≤ 7293034) {Rel : St → St → Prop} (hok : ok_27 Rel) {χ σ : St} (hR : Rel χ σ)
    (kk : ∀ χ1 σ1, Rel χ1 σ1 → LAt p l e s m below meth c b G (cells + 1) (slots + 6) 1661 i χ1 σ1) : LAt p l e s m below meth c b G cells slots 982 i χ σ := by
  intro H locs ls hw hl
  have hx := C.1.1
  have hb := C.1.2.1
  have hf := C.2.2.2.2.2.2.2.1
  obtain ⟨v, χ1, σ1, e1, e2, hR1⟩ := hok χ σ hR
  refine lv_aload_n hx hb dl_982 rfl (lv_at hl 1 rfl) ?_
  refine r_callV (As := []) (rest := []) (st' := [.int v]) C.1 hw hl mwX11_sorts wd_600 wd_601 wd_599 (c_X11_sorts hf e1) (r_recv C.1 hw ct7 (o_0 hf)) rfl ⟨Nat.le_of_ble_eq_true rfl, Nat.le_of_ble_eq_true rfl⟩ (And.intro (by show _ ≤ 601024; omega) (by show _ ≤ 7293034; omega)) rfl rfl (Nat.le_of_ble_eq_true rfl) dl_983 (fun H locs hw => ?_)
  refine lv_aload_n hx hb dl_986 rfl (lv_at hl 2 rfl) ?_
  refine r_callV (As := []) (rest := [.int v]) (st' := [.int v, .int v]) C.1 hw hl mwX12_sorts wd_1431 wd_1432 wd_1430 (c_X12_sorts hf e2) (r_recv C.1 hw ct8 (o_300 hf)) rfl ⟨Nat.le_of_ble_eq_true rfl, Nat.le_of_ble_eq_true rfl⟩ (And.intro (by show _ ≤ 601024; omega) (by show _ ≤ 7293034; omega)) rfl rfl (Nat.le_of_ble_eq_true rfl) dl_987 (fun H locs hw => ?_)
  refine lv_icmp_eq (tgt := 1661) hx hb dl_990 (by decide) (fun hc => ?_) (fun hc => absurd rfl hc)
  exact W.widen (Nat.le_add_right _ _) (Nat.le_add_right _ _) (kk χ1 σ1 hR1 _ _ _ hw hl)
theorem l_case_28 {p : Program} {l : Launch} {e : Env} {s : State} {m : MethodId} {below : List Frame} {meth : Method} {c : Code} {b L : Nat} {xs : Nat → Int32} {G : gT} (C : LC p l s m meth c b L xs G) {i : Nat} (hi : i + 6 ≤ L) {cells slots : Nat} (hcs : cells + 1 ≤ 601024 ∧ slots + 6 ≤ 7293034) {Rel : St → St → Prop} (hok : ok_28 Rel) {χ σ : St} (hR : Rel χ σ)
    (kk : ∀ χ1 σ1, Rel χ1 σ1 → LAt p l e s m below meth c b G (cells + 1) (slots + 6) 1661 i χ1 σ1) : LAt p l e s m below meth c b G cells slots 995 i χ σ := by
  intro H locs ls hw hl
  have hx := C.1.1
  have hb := C.1.2.1
  have hf := C.2.2.2.2.2.2.2.1
  obtain ⟨v, χ1, σ1, e1, e2, hR1⟩ := hok χ σ hR
  refine lv_aload_n hx hb dl_995 rfl (lv_at hl 1 rfl) ?_
  refine r_callV (As := []) (rest := []) (st' := [.int v]) C.1 hw hl mwX11_tells wd_604 wd_605 wd_603 (c_X11_tells hf e1) (r_recv C.1 hw ct7 (o_0 hf)) rfl ⟨Nat.le_of_ble_eq_true rfl, Nat.le_of_ble_eq_true rfl⟩ (And.intro (by show _ ≤ 601024; omega) (by show _ ≤ 7293034; omega)) rfl rfl (Nat.le_of_ble_eq_true rfl) dl_996 (fun H locs hw => ?_)
  refine lv_aload_n hx hb dl_999 rfl (lv_at hl 2 rfl) ?_
  refine r_callV (As := []) (rest := [.int v]) (st' := [.int v, .int v]) C.1 hw hl mwX12_tells wd_1443 wd_1444 wd_1442 (c_X12_tells hf e2) (r_recv C.1 hw ct8 (o_300 hf)) rfl ⟨Nat.le_of_ble_eq_true rfl, Nat.le_of_ble_eq_true rfl⟩ (And.intro (by show _ ≤ 601024; omega) (by show _ ≤ 7293034; omega)) rfl rfl (Nat.le_of_ble_eq_true rfl) dl_1000 (fun H locs hw => ?_)
  refine lv_icmp_eq (tgt := 1661) hx hb dl_1003 (by decide) (fun hc => ?_) (fun hc => absurd rfl hc)
  exact W.widen (Nat.le_add_right _ _) (Nat.le_add_right _ _) (kk χ1 σ1 hR1 _ _ _ hw hl)
theorem l_case_29 {p : Program} {l : Launch} {e : Env} {s : State} {m : MethodId} {below : List Frame} {meth : Method} {c : Code} {b L : Nat} {xs : Nat → Int32} {G : gT} (C : LC p l s m meth c b L xs G) {i : Nat} (hi : i + 6 ≤ L) {cells slots : Nat} (hcs : cells + 1 ≤ 601024 ∧ slots + 6 ≤ 7293034) {Rel : St → St → Prop} (hok : ok_29 Rel) {χ σ : St} (hR : Rel χ σ)
    (kk : ∀ χ1 σ1, Rel χ1 σ1 → LAt p l e s m below meth c b G (cells + 1) (slots + 6) 1661 i χ1 σ1) : LAt p l e s m below meth c b G cells slots 1008 i χ σ := by
  intro H locs ls hw hl
  have hx := C.1.1
  have hb := C.1.2.1
  have hf := C.2.2.2.2.2.2.2.1
  obtain ⟨v, χ1, σ1, e1, e2, hR1⟩ := hok χ σ hR
  refine lv_aload_n hx hb dl_1008 rfl (lv_at hl 1 rfl) ?_
  refine r_callV (As := []) (rest := []) (st' := [.int v]) C.1 hw hl mwX11_jury wd_611 wd_612 wd_610 (c_X11_jury hf e1) (r_recv C.1 hw ct7 (o_0 hf)) rfl ⟨Nat.le_of_ble_eq_true rfl, Nat.le_of_ble_eq_true rfl⟩ (And.intro (by show _ ≤ 601024; omega) (by show _ ≤ 7293034; omega)) rfl rfl (Nat.le_of_ble_eq_true rfl) dl_1009 (fun H locs hw => ?_)
  refine lv_aload_n hx hb dl_1012 rfl (lv_at hl 2 rfl) ?_
  refine r_callV (As := []) (rest := [.int v]) (st' := [.int v, .int v]) C.1 hw hl mwX12_jury wd_1458 wd_1459 wd_1457 (c_X12_jury hf e2) (r_recv C.1 hw ct8 (o_300 hf)) rfl ⟨Nat.le_of_ble_eq_true rfl, Nat.le_of_ble_eq_true rfl⟩ (And.intro (by show _ ≤ 601024; omega) (by show _ ≤ 7293034; omega)) rfl rfl (Nat.le_of_ble_eq_true rfl) dl_1013 (fun H locs hw => ?_)
  refine lv_icmp_eq (tgt := 1661) hx hb dl_1016 (by decide) (fun hc => ?_) (fun hc => absurd rfl hc)
  exact W.widen (Nat.le_add_right _ _) (Nat.le_add_right _ _) (kk χ1 σ1 hR1 _ _ _ hw hl)
theorem l_case_30 {p : Program} {l : Launch} {e : Env} {s : State} {m : MethodId} {below : List Frame} {meth : Method} {c : Code} {b L : Nat} {xs : Nat → Int32} {G : gT} (C : LC p l s m meth c b L xs G) {i : Nat} (hi : i + 6 ≤ L) {cells slots : Nat} (hcs : cells + 1 ≤ 601024 ∧ slots + 6 ≤ 7293034) {Rel : St → St → Prop} (hok : ok_30 Rel) {χ σ : St} (hR : Rel χ σ)
    (kk : ∀ χ1 σ1, Rel χ1 σ1 → LAt p l e s m below meth c b G (cells + 1) (slots + 6) 1661 i χ1 σ1) : LAt p l e s m below meth c b G cells slots 1021 i χ σ := by
  intro H locs ls hw hl
  have hx := C.1.1
  have hb := C.1.2.1
  have hf := C.2.2.2.2.2.2.2.1
  obtain ⟨v, χ1, σ1, e1, e2, hR1⟩ := hok χ σ (xs (i + 1)) hR
  refine lv_aload_n hx hb dl_1021 rfl (lv_at hl 1 rfl) ?_
  refine lv_aload_n hx hb dl_1022 rfl (lv_at hl 0 rfl) ?_
  refine lv_iload hx hb dl_1023 (lv_at hl 4 rfl) ?_
  refine lv_iconst (v := (1 : Int32)) hx hb dl_1025 (by decide) ?_
  refine lv_iadd hx hb dl_1026 ?_
  refine l_ld (k := 1) C hw hi (by decide) (by decide) dl_1027 ?_
  refine r_callV (As := [.int (xs (i + 1))]) (rest := []) (st' := [.int v]) C.1 hw hl mwX11_power wd_615 wd_616 wd_614 (c_X11_power hf e1) (r_recv C.1 hw ct7 (o_0 hf)) rfl ⟨Nat.le_of_ble_eq_true rfl, Nat.le_of_ble_eq_true rfl⟩ (And.intro (by show _ ≤ 601024; omega) (by show _ ≤ 7293034; omega)) rfl rfl (Nat.le_of_ble_eq_true rfl) dl_1028 (fun H locs hw => ?_)
  refine lv_aload_n hx hb dl_1031 rfl (lv_at hl 2 rfl) ?_
  refine lv_aload_n hx hb dl_1032 rfl (lv_at hl 0 rfl) ?_
  refine lv_iload hx hb dl_1033 (lv_at hl 4 rfl) ?_
  refine lv_iconst (v := (1 : Int32)) hx hb dl_1035 (by decide) ?_
  refine lv_iadd hx hb dl_1036 ?_
  refine l_ld (k := 1) C hw hi (by decide) (by decide) dl_1037 ?_
  refine r_callV (As := [.int (xs (i + 1))]) (rest := [.int v]) (st' := [.int v, .int v]) C.1 hw hl mwX12_power wd_1466 wd_1467 wd_1465 (c_X12_power hf e2) (r_recv C.1 hw ct8 (o_300 hf)) rfl ⟨Nat.le_of_ble_eq_true rfl, Nat.le_of_ble_eq_true rfl⟩ (And.intro (by show _ ≤ 601024; omega) (by show _ ≤ 7293034; omega)) rfl rfl (Nat.le_of_ble_eq_true rfl) dl_1038 (fun H locs hw => ?_)
  refine lv_icmp_eq (tgt := 1661) hx hb dl_1041 (by decide) (fun hc => ?_) (fun hc => absurd rfl hc)
  exact W.widen (Nat.le_add_right _ _) (Nat.le_add_right _ _) (kk χ1 σ1 hR1 _ _ _ hw hl)
theorem l_case_31 {p : Program} {l : Launch} {e : Env} {s : State} {m : MethodId} {below : List Frame} {meth : Method} {c : Code} {b L : Nat} {xs : Nat → Int32} {G : gT} (C : LC p l s m meth c b L xs G) {i : Nat} (hi : i + 6 ≤ L) {cells slots : Nat} (hcs : cells + 1 ≤ 601024 ∧ slots + 6 ≤ 7293034) {Rel : St → St → Prop} (hok : ok_31 Rel) {χ σ : St} (hR : Rel χ σ)
    (kk : ∀ χ1 σ1, Rel χ1 σ1 → LAt p l e s m below meth c b G (cells + 1) (slots + 6) 1661 i χ1 σ1) : LAt p l e s m below meth c b G cells slots 1046 i χ σ := by
  intro H locs ls hw hl
  have hx := C.1.1
  have hb := C.1.2.1
  have hf := C.2.2.2.2.2.2.2.1
  obtain ⟨v, χ1, σ1, e1, e2, hR1⟩ := hok χ σ (xs (i + 1)) hR
  refine lv_aload_n hx hb dl_1046 rfl (lv_at hl 1 rfl) ?_
  refine lv_aload_n hx hb dl_1047 rfl (lv_at hl 0 rfl) ?_
  refine lv_iload hx hb dl_1048 (lv_at hl 4 rfl) ?_
  refine lv_iconst (v := (1 : Int32)) hx hb dl_1050 (by decide) ?_
  refine lv_iadd hx hb dl_1051 ?_
  refine l_ld (k := 1) C hw hi (by decide) (by decide) dl_1052 ?_
  refine r_callV (As := [.int (xs (i + 1))]) (rest := []) (st' := [.int v]) C.1 hw hl mwX11_pivots wd_638 wd_639 wd_637 (c_X11_pivots hf e1) (r_recv C.1 hw ct7 (o_0 hf)) rfl ⟨Nat.le_of_ble_eq_true rfl, Nat.le_of_ble_eq_true rfl⟩ (And.intro (by show _ ≤ 601024; omega) (by show _ ≤ 7293034; omega)) rfl rfl (Nat.le_of_ble_eq_true rfl) dl_1053 (fun H locs hw => ?_)
  refine lv_aload_n hx hb dl_1056 rfl (lv_at hl 2 rfl) ?_
  refine lv_aload_n hx hb dl_1057 rfl (lv_at hl 0 rfl) ?_
  refine lv_iload hx hb dl_1058 (lv_at hl 4 rfl) ?_
  refine lv_iconst (v := (1 : Int32)) hx hb dl_1060 (by decide) ?_
  refine lv_iadd hx hb dl_1061 ?_
  refine l_ld (k := 1) C hw hi (by decide) (by decide) dl_1062 ?_
  refine r_callV (As := [.int (xs (i + 1))]) (rest := [.int v]) (st' := [.int v, .int v]) C.1 hw hl mwX12_pivots wd_1489 wd_1490 wd_1488 (c_X12_pivots hf e2) (r_recv C.1 hw ct8 (o_300 hf)) rfl ⟨Nat.le_of_ble_eq_true rfl, Nat.le_of_ble_eq_true rfl⟩ (And.intro (by show _ ≤ 601024; omega) (by show _ ≤ 7293034; omega)) rfl rfl (Nat.le_of_ble_eq_true rfl) dl_1063 (fun H locs hw => ?_)
  refine lv_icmp_eq (tgt := 1661) hx hb dl_1066 (by decide) (fun hc => ?_) (fun hc => absurd rfl hc)
  exact W.widen (Nat.le_add_right _ _) (Nat.le_add_right _ _) (kk χ1 σ1 hR1 _ _ _ hw hl)
theorem l_case_32 {p : Program} {l : Launch} {e : Env} {s : State} {m : MethodId} {below : List Frame} {meth : Method} {c : Code} {b L : Nat} {xs : Nat → Int32} {G : gT} (C : LC p l s m meth c b L xs G) {i : Nat} (hi : i + 6 ≤ L) {cells slots : Nat} (hcs : cells + 1 ≤ 601024 ∧ slots + 6 ≤ 7293034) {Rel : St → St → Prop} (hok : ok_32 Rel) {χ σ : St} (hR : Rel χ σ)
    (kk : ∀ χ1 σ1, Rel χ1 σ1 → LAt p l e s m below meth c b G (cells + 1) (slots + 6) 1661 i χ1 σ1) : LAt p l e s m below meth c b G cells slots 1071 i χ σ := by
  intro H locs ls hw hl
  have hx := C.1.1
  have hb := C.1.2.1
  have hf := C.2.2.2.2.2.2.2.1
  obtain ⟨v, χ1, σ1, e1, e2, hR1⟩ := hok χ σ hR
  refine lv_aload_n hx hb dl_1071 rfl (lv_at hl 1 rfl) ?_
  refine r_callV (As := []) (rest := []) (st' := [.int v]) C.1 hw hl mwX11_rules wd_645 wd_646 wd_644 (c_X11_rules hf e1) (r_recv C.1 hw ct7 (o_0 hf)) rfl ⟨Nat.le_of_ble_eq_true rfl, Nat.le_of_ble_eq_true rfl⟩ (And.intro (by show _ ≤ 601024; omega) (by show _ ≤ 7293034; omega)) rfl rfl (Nat.le_of_ble_eq_true rfl) dl_1072 (fun H locs hw => ?_)
  refine lv_aload_n hx hb dl_1075 rfl (lv_at hl 2 rfl) ?_
  refine r_callV (As := []) (rest := [.int v]) (st' := [.int v, .int v]) C.1 hw hl mwX12_rules wd_1496 wd_1497 wd_1495 (c_X12_rules hf e2) (r_recv C.1 hw ct8 (o_300 hf)) rfl ⟨Nat.le_of_ble_eq_true rfl, Nat.le_of_ble_eq_true rfl⟩ (And.intro (by show _ ≤ 601024; omega) (by show _ ≤ 7293034; omega)) rfl rfl (Nat.le_of_ble_eq_true rfl) dl_1076 (fun H locs hw => ?_)
  refine lv_icmp_eq (tgt := 1661) hx hb dl_1079 (by decide) (fun hc => ?_) (fun hc => absurd rfl hc)
  exact W.widen (Nat.le_add_right _ _) (Nat.le_add_right _ _) (kk χ1 σ1 hR1 _ _ _ hw hl)
theorem l_case_33 {p : Program} {l : Launch} {e : Env} {s : State} {m : MethodId} {below : List Frame} {meth : Method} {c : Code} {b L : Nat} {xs : Nat → Int32} {G : gT} (C : LC p l s m meth c b L xs G) {i : Nat} (hi : i + 6 ≤ L) {cells slots : Nat} (hcs : cells + 1 ≤ 601024 ∧ slots + 6 ≤ 7293034) {Rel : St → St → Prop} (hok : ok_33 Rel) {χ σ : St} (hR : Rel χ σ)
    (kk : ∀ χ1 σ1, Rel χ1 σ1 → LAt p l e s m below meth c b G (cells + 1) (slots + 6) 1661 i χ1 σ1) : LAt p l e s m below meth c b G cells slots 1084 i χ σ := by
  intro H locs ls hw hl
  have hx := C.1.1
  have hb := C.1.2.1
  have hf := C.2.2.2.2.2.2.2.1
  obtain ⟨v, χ1, σ1, e1, e2, hR1⟩ := hok χ σ hR
  refine lv_aload_n hx hb dl_1084 rfl (lv_at hl 1 rfl) ?_
  refine r_callV (As := []) (rest := []) (st' := [.int v]) C.1 hw hl mwX11_parties wd_653 wd_654 wd_652 (c_X11_parties hf e1) (r_recv C.1 hw ct7 (o_0 hf)) rfl ⟨Nat.le_of_ble_eq_true rfl, Nat.le_of_ble_eq_true rfl⟩ (And.intro (by show _ ≤ 601024; omega) (by show _ ≤ 7293034; omega)) rfl rfl (Nat.le_of_ble_eq_true rfl) dl_1085 (fun H locs hw => ?_)
  refine lv_aload_n hx hb dl_1088 rfl (lv_at hl 2 rfl) ?_
  refine r_callV (As := []) (rest := [.int v]) (st' := [.int v, .int v]) C.1 hw hl mwX12_parties wd_1500 wd_1501 wd_1499 (c_X12_parties hf e2) (r_recv C.1 hw ct8 (o_300 hf)) rfl ⟨Nat.le_of_ble_eq_true rfl, Nat.le_of_ble_eq_true rfl⟩ (And.intro (by show _ ≤ 601024; omega) (by show _ ≤ 7293034; omega)) rfl rfl (Nat.le_of_ble_eq_true rfl) dl_1089 (fun H locs hw => ?_)
  refine lv_icmp_eq (tgt := 1661) hx hb dl_1092 (by decide) (fun hc => ?_) (fun hc => absurd rfl hc)
  exact W.widen (Nat.le_add_right _ _) (Nat.le_add_right _ _) (kk χ1 σ1 hR1 _ _ _ hw hl)
theorem l_case_34 {p : Program} {l : Launch} {e : Env} {s : State} {m : MethodId} {below : List Frame} {meth : Method} {c : Code} {b L : Nat} {xs : Nat → Int32} {G : gT} (C : LC p l s m meth c b L xs G) {i : Nat} (hi : i + 6 ≤ L) {cells slots : Nat} (hcs : cells + 1 ≤ 601024 ∧ slots + 6 ≤ 7293034) {Rel : St → St → Prop} (hok : ok_34 Rel) {χ σ : St} (hR : Rel χ σ)
    (kk : ∀ χ1 σ1, Rel χ1 σ1 → LAt p l e s m below meth c b G (cells + 1) (slots + 6) 1661 i χ1 σ1) : LAt p l e s m below meth c b G cells slots 1097 i χ σ := by
  intro H locs ls hw hl
  have hx := C.1.1
  have hb := C.1.2.1
  have hf := C.2.2.2.2.2.2.2.1
  obtain ⟨v, χ1, σ1, e1, e2, hR1⟩ := hok χ σ (xs (i + 1)) (xs (i + 2)) (xs (i + 3)) hR
  refine lv_aload_n hx hb dl_1097 rfl (lv_at hl 1 rfl) ?_
  refine lv_aload_n hx hb dl_1098 rfl (lv_at hl 0 rfl) ?_
  refine lv_iload hx hb dl_1099 (lv_at hl 4 rfl) ?_
  refine lv_iconst (v := (1 : Int32)) hx hb dl_1101 (by decide) ?_
  refine lv_iadd hx hb dl_1102 ?_
  refine l_ld (k := 1) C hw hi (by decide) (by decide) dl_1103 ?_
  refine lv_aload_n hx hb dl_1104 rfl (lv_at hl 0 rfl) ?_
  refine lv_iload hx hb dl_1105 (lv_at hl 4 rfl) ?_
  refine lv_iconst (v := (2 : Int32)) hx hb dl_1107 (by decide) ?_
  refine lv_iadd hx hb dl_1108 ?_
  refine l_ld (k := 2) C hw hi (by decide) (by decide) dl_1109 ?_
  refine lv_aload_n hx hb dl_1110 rfl (lv_at hl 0 rfl) ?_
  refine lv_iload hx hb dl_1111 (lv_at hl 4 rfl) ?_
  refine lv_iconst (v := (3 : Int32)) hx hb dl_1113 (by decide) ?_
  refine lv_iadd hx hb dl_1114 ?_
  refine l_ld (k := 3) C hw hi (by decide) (by decide) dl_1115 ?_
  refine r_callV (As := [.int (xs (i + 1)), .int (xs (i + 2)), .int (xs (i + 3))]) (rest := []) (st' := [.int v]) C.1 hw hl mwX11_seen wd_664 wd_665 wd_663 (c_X11_seen hf e1) (r_recv C.1 hw ct7 (o_0 hf)) rfl ⟨Nat.le_of_ble_eq_true rfl, Nat.le_of_ble_eq_true rfl⟩ (And.intro (by show _ ≤ 601024; omega) (by show _ ≤ 7293034; omega)) rfl rfl (Nat.le_of_ble_eq_true rfl) dl_1116 (fun H locs hw => ?_)
  refine lv_aload_n hx hb dl_1119 rfl (lv_at hl 2 rfl) ?_
  refine lv_aload_n hx hb dl_1120 rfl (lv_at hl 0 rfl) ?_
  refine lv_iload hx hb dl_1121 (lv_at hl 4 rfl) ?_
  refine lv_iconst (v := (1 : Int32)) hx hb dl_1123 (by decide) ?_
  refine lv_iadd hx hb dl_1124 ?_
  refine l_ld (k := 1) C hw hi (by decide) (by decide) dl_1125 ?_
  refine lv_aload_n hx hb dl_1126 rfl (lv_at hl 0 rfl) ?_
  refine lv_iload hx hb dl_1127 (lv_at hl 4 rfl) ?_
  refine lv_iconst (v := (2 : Int32)) hx hb dl_1129 (by decide) ?_
  refine lv_iadd hx hb dl_1130 ?_
  refine l_ld (k := 2) C hw hi (by decide) (by decide) dl_1131 ?_
  refine lv_aload_n hx hb dl_1132 rfl (lv_at hl 0 rfl) ?_
  refine lv_iload hx hb dl_1133 (lv_at hl 4 rfl) ?_
  refine lv_iconst (v := (3 : Int32)) hx hb dl_1135 (by decide) ?_
  refine lv_iadd hx hb dl_1136 ?_
  refine l_ld (k := 3) C hw hi (by decide) (by decide) dl_1137 ?_
  refine r_callV (As := [.int (xs (i + 1)), .int (xs (i + 2)), .int (xs (i + 3))]) (rest := [.int v]) (st' := [.int v, .int v]) C.1 hw hl mwX12_seen wd_1505 wd_1506 wd_1504 (c_X12_seen hf e2) (r_recv C.1 hw ct8 (o_300 hf)) rfl ⟨Nat.le_of_ble_eq_true rfl, Nat.le_of_ble_eq_true rfl⟩ (And.intro (by show _ ≤ 601024; omega) (by show _ ≤ 7293034; omega)) rfl rfl (Nat.le_of_ble_eq_true rfl) dl_1138 (fun H locs hw => ?_)
  refine lv_icmp_eq (tgt := 1661) hx hb dl_1141 (by decide) (fun hc => ?_) (fun hc => absurd rfl hc)
  exact W.widen (Nat.le_add_right _ _) (Nat.le_add_right _ _) (kk χ1 σ1 hR1 _ _ _ hw hl)
theorem l_case_35 {p : Program} {l : Launch} {e : Env} {s : State} {m : MethodId} {below : List Frame} {meth : Method} {c : Code} {b L : Nat} {xs : Nat → Int32} {G : gT} (C : LC p l s m meth c b L xs G) {i : Nat} (hi : i + 6 ≤ L) {cells slots : Nat} (hcs : cells + 1 ≤ 601024 ∧ slots + 6 ≤ 7293034) {Rel : St → St → Prop} (hok : ok_35 Rel) {χ σ : St} (hR : Rel χ σ)
    (kk : ∀ χ1 σ1, Rel χ1 σ1 → LAt p l e s m below meth c b G (cells + 1) (slots + 6) 1661 i χ1 σ1) : LAt p l e s m below meth c b G cells slots 1146 i χ σ := by
  intro H locs ls hw hl
  have hx := C.1.1
  have hb := C.1.2.1
  have hf := C.2.2.2.2.2.2.2.1
  obtain ⟨v, χ1, σ1, e1, e2, hR1⟩ := hok χ σ hR
  refine lv_aload_n hx hb dl_1146 rfl (lv_at hl 1 rfl) ?_
  refine r_callV (As := []) (rest := []) (st' := [.int v]) C.1 hw hl mwX11_forget wd_677 wd_678 wd_676 (c_X11_forget hf e1) (r_recv C.1 hw ct7 (o_0 hf)) rfl ⟨Nat.le_of_ble_eq_true rfl, Nat.le_of_ble_eq_true rfl⟩ (And.intro (by show _ ≤ 601024; omega) (by show _ ≤ 7293034; omega)) rfl rfl (Nat.le_of_ble_eq_true rfl) dl_1147 (fun H locs hw => ?_)
  refine lv_aload_n hx hb dl_1150 rfl (lv_at hl 2 rfl) ?_
  refine r_callV (As := []) (rest := [.int v]) (st' := [.int v, .int v]) C.1 hw hl mwX12_forget wd_1509 wd_1510 wd_1508 (c_X12_forget hf e2) (r_recv C.1 hw ct8 (o_300 hf)) rfl ⟨Nat.le_of_ble_eq_true rfl, Nat.le_of_ble_eq_true rfl⟩ (And.intro (by show _ ≤ 601024; omega) (by show _ ≤ 7293034; omega)) rfl rfl (Nat.le_of_ble_eq_true rfl) dl_1151 (fun H locs hw => ?_)
  refine lv_icmp_eq (tgt := 1661) hx hb dl_1154 (by decide) (fun hc => ?_) (fun hc => absurd rfl hc)
  exact W.widen (Nat.le_add_right _ _) (Nat.le_add_right _ _) (kk χ1 σ1 hR1 _ _ _ hw hl)
theorem l_case_36 {p : Program} {l : Launch} {e : Env} {s : State} {m : MethodId} {below : List Frame} {meth : Method} {c : Code} {b L : Nat} {xs : Nat → Int32} {G : gT} (C : LC p l s m meth c b L xs G) {i : Nat} (hi : i + 6 ≤ L) {cells slots : Nat} (hcs : cells + 1 ≤ 601024 ∧ slots + 6 ≤ 7293034) {Rel : St → St → Prop} (hok : ok_36 Rel) {χ σ : St} (hR : Rel χ σ)
    (kk : ∀ χ1 σ1, Rel χ1 σ1 → LAt p l e s m below meth c b G (cells + 1) (slots + 6) 1661 i χ1 σ1) : LAt p l e s m below meth c b G cells slots 1159 i χ σ := by
  intro H locs ls hw hl
  have hx := C.1.1
  have hb := C.1.2.1
  have hf := C.2.2.2.2.2.2.2.1
  obtain ⟨v, χ1, σ1, e1, e2, hR1⟩ := hok χ σ (xs (i + 1)) hR
  refine lv_aload_n hx hb dl_1159 rfl (lv_at hl 1 rfl) ?_
  refine lv_aload_n hx hb dl_1160 rfl (lv_at hl 0 rfl) ?_
  refine lv_iload hx hb dl_1161 (lv_at hl 4 rfl) ?_
  refine lv_iconst (v := (1 : Int32)) hx hb dl_1163 (by decide) ?_
  refine lv_iadd hx hb dl_1164 ?_
  refine l_ld (k := 1) C hw hi (by decide) (by decide) dl_1165 ?_
  refine r_callV (As := [.int (xs (i + 1))]) (rest := []) (st' := [.int v]) C.1 hw hl mwX11_cares wd_685 wd_686 wd_684 (c_X11_cares hf e1) (r_recv C.1 hw ct7 (o_0 hf)) rfl ⟨Nat.le_of_ble_eq_true rfl, Nat.le_of_ble_eq_true rfl⟩ (And.intro (by show _ ≤ 601024; omega) (by show _ ≤ 7293034; omega)) rfl rfl (Nat.le_of_ble_eq_true rfl) dl_1166 (fun H locs hw => ?_)
  refine lv_aload_n hx hb dl_1169 rfl (lv_at hl 2 rfl) ?_
  refine lv_aload_n hx hb dl_1170 rfl (lv_at hl 0 rfl) ?_
  refine lv_iload hx hb dl_1171 (lv_at hl 4 rfl) ?_
  refine lv_iconst (v := (1 : Int32)) hx hb dl_1173 (by decide) ?_
  refine lv_iadd hx hb dl_1174 ?_
  refine l_ld (k := 1) C hw hi (by decide) (by decide) dl_1175 ?_
  refine r_callV (As := [.int (xs (i + 1))]) (rest := [.int v]) (st' := [.int v, .int v]) C.1 hw hl mwX12_cares wd_1513 wd_1514 wd_1512 (c_X12_cares hf e2) (r_recv C.1 hw ct8 (o_300 hf)) rfl ⟨Nat.le_of_ble_eq_true rfl, Nat.le_of_ble_eq_true rfl⟩ (And.intro (by show _ ≤ 601024; omega) (by show _ ≤ 7293034; omega)) rfl rfl (Nat.le_of_ble_eq_true rfl) dl_1176 (fun H locs hw => ?_)
  refine lv_icmp_eq (tgt := 1661) hx hb dl_1179 (by decide) (fun hc => ?_) (fun hc => absurd rfl hc)
  exact W.widen (Nat.le_add_right _ _) (Nat.le_add_right _ _) (kk χ1 σ1 hR1 _ _ _ hw hl)
theorem l_case_37 {p : Program} {l : Launch} {e : Env} {s : State} {m : MethodId} {below : List Frame} {meth : Method} {c : Code} {b L : Nat} {xs : Nat → Int32} {G : gT} (C : LC p l s m meth c b L xs G) {i : Nat} (hi : i + 6 ≤ L) {cells slots : Nat} (hcs : cells + 1 ≤ 601024 ∧ slots + 6 ≤ 7293034) {Rel : St → St → Prop} (hok : ok_37 Rel) {χ σ : St} (hR : Rel χ σ)
    (kk : ∀ χ1 σ1, Rel χ1 σ1 → LAt p l e s m below meth c b G (cells + 1) (slots + 6) 1661 i χ1 σ1) : LAt p l e s m below meth c b G cells slots 1184 i χ σ := by
  intro H locs ls hw hl
  have hx := C.1.1
  have hb := C.1.2.1
  have hf := C.2.2.2.2.2.2.2.1
  obtain ⟨v, χ1, σ1, e1, e2, hR1⟩ := hok χ σ (xs (i + 1)) hR
  refine lv_aload_n hx hb dl_1184 rfl (lv_at hl 1 rfl) ?_
  refine lv_aload_n hx hb dl_1185 rfl (lv_at hl 0 rfl) ?_
  refine lv_iload hx hb dl_1186 (lv_at hl 4 rfl) ?_
  refine lv_iconst (v := (1 : Int32)) hx hb dl_1188 (by decide) ?_
  refine lv_iadd hx hb dl_1189 ?_
  refine l_ld (k := 1) C hw hi (by decide) (by decide) dl_1190 ?_
  refine r_callV (As := [.int (xs (i + 1))]) (rest := []) (st' := [.int v]) C.1 hw hl mwX11_next wd_711 wd_712 wd_710 (c_X11_next hf e1) (r_recv C.1 hw ct7 (o_0 hf)) rfl ⟨Nat.le_of_ble_eq_true rfl, Nat.le_of_ble_eq_true rfl⟩ (And.intro (by show _ ≤ 601024; omega) (by show _ ≤ 7293034; omega)) rfl rfl (Nat.le_of_ble_eq_true rfl) dl_1191 (fun H locs hw => ?_)
  refine lv_aload_n hx hb dl_1194 rfl (lv_at hl 2 rfl) ?_
  refine lv_aload_n hx hb dl_1195 rfl (lv_at hl 0 rfl) ?_
  refine lv_iload hx hb dl_1196 (lv_at hl 4 rfl) ?_
  refine lv_iconst (v := (1 : Int32)) hx hb dl_1198 (by decide) ?_
  refine lv_iadd hx hb dl_1199 ?_
  refine l_ld (k := 1) C hw hi (by decide) (by decide) dl_1200 ?_
  refine r_callV (As := [.int (xs (i + 1))]) (rest := [.int v]) (st' := [.int v, .int v]) C.1 hw hl mwX12_next wd_1528 wd_1529 wd_1527 (c_X12_next hf e2) (r_recv C.1 hw ct8 (o_300 hf)) rfl ⟨Nat.le_of_ble_eq_true rfl, Nat.le_of_ble_eq_true rfl⟩ (And.intro (by show _ ≤ 601024; omega) (by show _ ≤ 7293034; omega)) rfl rfl (Nat.le_of_ble_eq_true rfl) dl_1201 (fun H locs hw => ?_)
  refine lv_icmp_eq (tgt := 1661) hx hb dl_1204 (by decide) (fun hc => ?_) (fun hc => absurd rfl hc)
  exact W.widen (Nat.le_add_right _ _) (Nat.le_add_right _ _) (kk χ1 σ1 hR1 _ _ _ hw hl)
theorem l_case_38 {p : Program} {l : Launch} {e : Env} {s : State} {m : MethodId} {below : List Frame} {meth : Method} {c : Code} {b L : Nat} {xs : Nat → Int32} {G : gT} (C : LC p l s m meth c b L xs G) {i : Nat} (hi : i + 6 ≤ L) {cells slots : Nat} (hcs : cells + 1 ≤ 601024 ∧ slots + 6 ≤ 7293034) {Rel : St → St → Prop} (hok : ok_38 Rel) {χ σ : St} (hR : Rel χ σ)
    (kk : ∀ χ1 σ1, Rel χ1 σ1 → LAt p l e s m below meth c b G (cells + 1) (slots + 6) 1661 i χ1 σ1) : LAt p l e s m below meth c b G cells slots 1209 i χ σ := by
  intro H locs ls hw hl
  have hx := C.1.1
  have hb := C.1.2.1
  have hf := C.2.2.2.2.2.2.2.1
  obtain ⟨v, χ1, σ1, e1, e2, hR1⟩ := hok χ σ (xs (i + 1)) (xs (i + 2)) hR
  refine lv_aload_n hx hb dl_1209 rfl (lv_at hl 1 rfl) ?_
  refine lv_aload_n hx hb dl_1210 rfl (lv_at hl 0 rfl) ?_
  refine lv_iload hx hb dl_1211 (lv_at hl 4 rfl) ?_
  refine lv_iconst (v := (1 : Int32)) hx hb dl_1213 (by decide) ?_
  refine lv_iadd hx hb dl_1214 ?_
  refine l_ld (k := 1) C hw hi (by decide) (by decide) dl_1215 ?_
  refine lv_aload_n hx hb dl_1216 rfl (lv_at hl 0 rfl) ?_
  refine lv_iload hx hb dl_1217 (lv_at hl 4 rfl) ?_
  refine lv_iconst (v := (2 : Int32)) hx hb dl_1219 (by decide) ?_
  refine lv_iadd hx hb dl_1220 ?_
  refine l_ld (k := 2) C hw hi (by decide) (by decide) dl_1221 ?_
  refine r_callV (As := [.int (xs (i + 1)), .int (xs (i + 2))]) (rest := []) (st' := [.int v]) C.1 hw hl mwX11_heard wd_721 wd_722 wd_720 (c_X11_heard hf e1) (r_recv C.1 hw ct7 (o_0 hf)) rfl ⟨Nat.le_of_ble_eq_true rfl, Nat.le_of_ble_eq_true rfl⟩ (And.intro (by show _ ≤ 601024; omega) (by show _ ≤ 7293034; omega)) rfl rfl (Nat.le_of_ble_eq_true rfl) dl_1222 (fun H locs hw => ?_)
  refine lv_aload_n hx hb dl_1225 rfl (lv_at hl 2 rfl) ?_
  refine lv_aload_n hx hb dl_1226 rfl (lv_at hl 0 rfl) ?_
  refine lv_iload hx hb dl_1227 (lv_at hl 4 rfl) ?_
  refine lv_iconst (v := (1 : Int32)) hx hb dl_1229 (by decide) ?_
  refine lv_iadd hx hb dl_1230 ?_
  refine l_ld (k := 1) C hw hi (by decide) (by decide) dl_1231 ?_
  refine lv_aload_n hx hb dl_1232 rfl (lv_at hl 0 rfl) ?_
  refine lv_iload hx hb dl_1233 (lv_at hl 4 rfl) ?_
  refine lv_iconst (v := (2 : Int32)) hx hb dl_1235 (by decide) ?_
  refine lv_iadd hx hb dl_1236 ?_
  refine l_ld (k := 2) C hw hi (by decide) (by decide) dl_1237 ?_
  refine r_callV (As := [.int (xs (i + 1)), .int (xs (i + 2))]) (rest := [.int v]) (st' := [.int v, .int v]) C.1 hw hl mwX12_heard wd_1532 wd_1533 wd_1531 (c_X12_heard hf e2) (r_recv C.1 hw ct8 (o_300 hf)) rfl ⟨Nat.le_of_ble_eq_true rfl, Nat.le_of_ble_eq_true rfl⟩ (And.intro (by show _ ≤ 601024; omega) (by show _ ≤ 7293034; omega)) rfl rfl (Nat.le_of_ble_eq_true rfl) dl_1238 (fun H locs hw => ?_)
  refine lv_icmp_eq (tgt := 1661) hx hb dl_1241 (by decide) (fun hc => ?_) (fun hc => absurd rfl hc)
  exact W.widen (Nat.le_add_right _ _) (Nat.le_add_right _ _) (kk χ1 σ1 hR1 _ _ _ hw hl)
theorem l_case_39 {p : Program} {l : Launch} {e : Env} {s : State} {m : MethodId} {below : List Frame} {meth : Method} {c : Code} {b L : Nat} {xs : Nat → Int32} {G : gT} (C : LC p l s m meth c b L xs G) {i : Nat} (hi : i + 6 ≤ L) {cells slots : Nat} (hcs : cells + 1 ≤ 601024 ∧ slots + 6 ≤ 7293034) {Rel : St → St → Prop} (hok : ok_39 Rel) {χ σ : St} (hR : Rel χ σ)
    (kk : ∀ χ1 σ1, Rel χ1 σ1 → LAt p l e s m below meth c b G (cells + 1) (slots + 6) 1661 i χ1 σ1) : LAt p l e s m below meth c b G cells slots 1246 i χ σ := by
  intro H locs ls hw hl
  have hx := C.1.1
  have hb := C.1.2.1
  have hf := C.2.2.2.2.2.2.2.1
  obtain ⟨v, χ1, σ1, e1, e2, hR1⟩ := hok χ σ hR
  refine lv_aload_n hx hb dl_1246 rfl (lv_at hl 1 rfl) ?_
  refine r_callV (As := []) (rest := []) (st' := [.int v]) C.1 hw hl mwX11_denies wd_739 wd_740 wd_738 (c_X11_denies hf e1) (r_recv C.1 hw ct7 (o_0 hf)) rfl ⟨Nat.le_of_ble_eq_true rfl, Nat.le_of_ble_eq_true rfl⟩ (And.intro (by show _ ≤ 601024; omega) (by show _ ≤ 7293034; omega)) rfl rfl (Nat.le_of_ble_eq_true rfl) dl_1247 (fun H locs hw => ?_)
  refine lv_aload_n hx hb dl_1250 rfl (lv_at hl 2 rfl) ?_
  refine r_callV (As := []) (rest := [.int v]) (st' := [.int v, .int v]) C.1 hw hl mwX12_denies wd_1539 wd_1540 wd_1538 (c_X12_denies hf e2) (r_recv C.1 hw ct8 (o_300 hf)) rfl ⟨Nat.le_of_ble_eq_true rfl, Nat.le_of_ble_eq_true rfl⟩ (And.intro (by show _ ≤ 601024; omega) (by show _ ≤ 7293034; omega)) rfl rfl (Nat.le_of_ble_eq_true rfl) dl_1251 (fun H locs hw => ?_)
  refine lv_icmp_eq (tgt := 1661) hx hb dl_1254 (by decide) (fun hc => ?_) (fun hc => absurd rfl hc)
  exact W.widen (Nat.le_add_right _ _) (Nat.le_add_right _ _) (kk χ1 σ1 hR1 _ _ _ hw hl)
theorem l_case_40 {p : Program} {l : Launch} {e : Env} {s : State} {m : MethodId} {below : List Frame} {meth : Method} {c : Code} {b L : Nat} {xs : Nat → Int32} {G : gT} (C : LC p l s m meth c b L xs G) {i : Nat} (hi : i + 6 ≤ L) {cells slots : Nat} (hcs : cells + 1 ≤ 601024 ∧ slots + 6 ≤ 7293034) {Rel : St → St → Prop} (hok : ok_40 Rel) {χ σ : St} (hR : Rel χ σ)
    (kk : ∀ χ1 σ1, Rel χ1 σ1 → LAt p l e s m below meth c b G (cells + 1) (slots + 6) 1661 i χ1 σ1) : LAt p l e s m below meth c b G cells slots 1259 i χ σ := by
  intro H locs ls hw hl
  have hx := C.1.1
  have hb := C.1.2.1
  have hf := C.2.2.2.2.2.2.2.1
  obtain ⟨v, χ1, σ1, e1, e2, hR1⟩ := hok χ σ hR
  refine lv_aload_n hx hb dl_1259 rfl (lv_at hl 1 rfl) ?_
  refine r_callV (As := []) (rest := []) (st' := [.int v]) C.1 hw hl mwX11_fits wd_747 wd_748 wd_746 (c_X11_fits hf e1) (r_recv C.1 hw ct7 (o_0 hf)) rfl ⟨Nat.le_of_ble_eq_true rfl, Nat.le_of_ble_eq_true rfl⟩ (And.intro (by show _ ≤ 601024; omega) (by show _ ≤ 7293034; omega)) rfl rfl (Nat.le_of_ble_eq_true rfl) dl_1260 (fun H locs hw => ?_)
  refine lv_aload_n hx hb dl_1263 rfl (lv_at hl 2 rfl) ?_
  refine r_callV (As := []) (rest := [.int v]) (st' := [.int v, .int v]) C.1 hw hl mwX12_fits wd_1543 wd_1544 wd_1542 (c_X12_fits hf e2) (r_recv C.1 hw ct8 (o_300 hf)) rfl ⟨Nat.le_of_ble_eq_true rfl, Nat.le_of_ble_eq_true rfl⟩ (And.intro (by show _ ≤ 601024; omega) (by show _ ≤ 7293034; omega)) rfl rfl (Nat.le_of_ble_eq_true rfl) dl_1264 (fun H locs hw => ?_)
  refine lv_icmp_eq (tgt := 1661) hx hb dl_1267 (by decide) (fun hc => ?_) (fun hc => absurd rfl hc)
  exact W.widen (Nat.le_add_right _ _) (Nat.le_add_right _ _) (kk χ1 σ1 hR1 _ _ _ hw hl)
theorem l_case_41 {p : Program} {l : Launch} {e : Env} {s : State} {m : MethodId} {below : List Frame} {meth : Method} {c : Code} {b L : Nat} {xs : Nat → Int32} {G : gT} (C : LC p l s m meth c b L xs G) {i : Nat} (hi : i + 6 ≤ L) {cells slots : Nat} (hcs : cells + 1 ≤ 601024 ∧ slots + 6 ≤ 7293034) {Rel : St → St → Prop} (hok : ok_41 Rel) {χ σ : St} (hR : Rel χ σ)
    (kk : ∀ χ1 σ1, Rel χ1 σ1 → LAt p l e s m below meth c b G (cells + 1) (slots + 6) 1661 i χ1 σ1) : LAt p l e s m below meth c b G cells slots 1272 i χ σ := by
  intro H locs ls hw hl
  have hx := C.1.1
  have hb := C.1.2.1
  have hf := C.2.2.2.2.2.2.2.1
  obtain ⟨v, χ1, σ1, e1, e2, hR1⟩ := hok χ σ hR
  refine lv_aload_n hx hb dl_1272 rfl (lv_at hl 1 rfl) ?_
  refine r_callV (As := []) (rest := []) (st' := [.int v]) C.1 hw hl mwX11_asks wd_762 wd_763 wd_761 (c_X11_asks hf e1) (r_recv C.1 hw ct7 (o_0 hf)) rfl ⟨Nat.le_of_ble_eq_true rfl, Nat.le_of_ble_eq_true rfl⟩ (And.intro (by show _ ≤ 601024; omega) (by show _ ≤ 7293034; omega)) rfl rfl (Nat.le_of_ble_eq_true rfl) dl_1273 (fun H locs hw => ?_)
  refine lv_aload_n hx hb dl_1276 rfl (lv_at hl 2 rfl) ?_
  refine r_callV (As := []) (rest := [.int v]) (st' := [.int v, .int v]) C.1 hw hl mwX12_asks wd_1555 wd_1556 wd_1554 (c_X12_asks hf e2) (r_recv C.1 hw ct8 (o_300 hf)) rfl ⟨Nat.le_of_ble_eq_true rfl, Nat.le_of_ble_eq_true rfl⟩ (And.intro (by show _ ≤ 601024; omega) (by show _ ≤ 7293034; omega)) rfl rfl (Nat.le_of_ble_eq_true rfl) dl_1277 (fun H locs hw => ?_)
  refine lv_icmp_eq (tgt := 1661) hx hb dl_1280 (by decide) (fun hc => ?_) (fun hc => absurd rfl hc)
  exact W.widen (Nat.le_add_right _ _) (Nat.le_add_right _ _) (kk χ1 σ1 hR1 _ _ _ hw hl)
theorem l_case_42 {p : Program} {l : Launch} {e : Env} {s : State} {m : MethodId} {below : List Frame} {meth : Method} {c : Code} {b L : Nat} {xs : Nat → Int32} {G : gT} (C : LC p l s m meth c b L xs G) {i : Nat} (hi : i + 6 ≤ L) {cells slots : Nat} (hcs : cells + 1 ≤ 601024 ∧ slots + 6 ≤ 7293034) {Rel : St → St → Prop} (hok : ok_42 Rel) {χ σ : St} (hR : Rel χ σ)
    (kk : ∀ χ1 σ1, Rel χ1 σ1 → LAt p l e s m below meth c b G (cells + 1) (slots + 6) 1661 i χ1 σ1) : LAt p l e s m below meth c b G cells slots 1285 i χ σ := by
  intro H locs ls hw hl
  have hx := C.1.1
  have hb := C.1.2.1
  have hf := C.2.2.2.2.2.2.2.1
  obtain ⟨v, χ1, σ1, e1, e2, hR1⟩ := hok χ σ (xs (i + 1)) (xs (i + 2)) (xs (i + 3)) (xs (i + 4)) hR
  refine lv_aload_n hx hb dl_1285 rfl (lv_at hl 1 rfl) ?_
  refine lv_aload_n hx hb dl_1286 rfl (lv_at hl 0 rfl) ?_
  refine lv_iload hx hb dl_1287 (lv_at hl 4 rfl) ?_
  refine lv_iconst (v := (1 : Int32)) hx hb dl_1289 (by decide) ?_
  refine lv_iadd hx hb dl_1290 ?_
  refine l_ld (k := 1) C hw hi (by decide) (by decide) dl_1291 ?_
  refine lv_aload_n hx hb dl_1292 rfl (lv_at hl 0 rfl) ?_
  refine lv_iload hx hb dl_1293 (lv_at hl 4 rfl) ?_
  refine lv_iconst (v := (2 : Int32)) hx hb dl_1295 (by decide) ?_
  refine lv_iadd hx hb dl_1296 ?_
  refine l_ld (k := 2) C hw hi (by decide) (by decide) dl_1297 ?_
  refine lv_aload_n hx hb dl_1298 rfl (lv_at hl 0 rfl) ?_
  refine lv_iload hx hb dl_1299 (lv_at hl 4 rfl) ?_
  refine lv_iconst (v := (3 : Int32)) hx hb dl_1301 (by decide) ?_
  refine lv_iadd hx hb dl_1302 ?_
  refine l_ld (k := 3) C hw hi (by decide) (by decide) dl_1303 ?_
  refine lv_aload_n hx hb dl_1304 rfl (lv_at hl 0 rfl) ?_
  refine lv_iload hx hb dl_1305 (lv_at hl 4 rfl) ?_
  refine lv_iconst (v := (4 : Int32)) hx hb dl_1307 (by decide) ?_
  refine lv_iadd hx hb dl_1308 ?_
  refine l_ld (k := 4) C hw hi (by decide) (by decide) dl_1309 ?_
  refine r_callV (As := [.int (xs (i + 1)), .int (xs (i + 2)), .int (xs (i + 3)), .int (xs (i + 4))]) (rest := []) (st' := [.int v]) C.1 hw hl mwX11_slips wd_767 wd_768 wd_766 (c_X11_slips hf e1) (r_recv C.1 hw ct7 (o_0 hf)) rfl ⟨Nat.le_of_ble_eq_true rfl, Nat.le_of_ble_eq_true rfl⟩ (And.intro (by show _ ≤ 601024; omega) (by show _ ≤ 7293034; omega)) rfl rfl (Nat.le_of_ble_eq_true rfl) dl_1310 (fun H locs hw => ?_)
  refine lv_aload_n hx hb dl_1313 rfl (lv_at hl 2 rfl) ?_
  refine lv_aload_n hx hb dl_1314 rfl (lv_at hl 0 rfl) ?_
  refine lv_iload hx hb dl_1315 (lv_at hl 4 rfl) ?_
  refine lv_iconst (v := (1 : Int32)) hx hb dl_1317 (by decide) ?_
  refine lv_iadd hx hb dl_1318 ?_
  refine l_ld (k := 1) C hw hi (by decide) (by decide) dl_1319 ?_
  refine lv_aload_n hx hb dl_1320 rfl (lv_at hl 0 rfl) ?_
  refine lv_iload hx hb dl_1321 (lv_at hl 4 rfl) ?_
  refine lv_iconst (v := (2 : Int32)) hx hb dl_1323 (by decide) ?_
  refine lv_iadd hx hb dl_1324 ?_
  refine l_ld (k := 2) C hw hi (by decide) (by decide) dl_1325 ?_
  refine lv_aload_n hx hb dl_1326 rfl (lv_at hl 0 rfl) ?_
  refine lv_iload hx hb dl_1327 (lv_at hl 4 rfl) ?_
  refine lv_iconst (v := (3 : Int32)) hx hb dl_1329 (by decide) ?_
  refine lv_iadd hx hb dl_1330 ?_
  refine l_ld (k := 3) C hw hi (by decide) (by decide) dl_1331 ?_
  refine lv_aload_n hx hb dl_1332 rfl (lv_at hl 0 rfl) ?_
  refine lv_iload hx hb dl_1333 (lv_at hl 4 rfl) ?_
  refine lv_iconst (v := (4 : Int32)) hx hb dl_1335 (by decide) ?_
  refine lv_iadd hx hb dl_1336 ?_
  refine l_ld (k := 4) C hw hi (by decide) (by decide) dl_1337 ?_
  refine r_callV (As := [.int (xs (i + 1)), .int (xs (i + 2)), .int (xs (i + 3)), .int (xs (i + 4))]) (rest := [.int v]) (st' := [.int v, .int v]) C.1 hw hl mwX12_slips wd_1559 wd_1560 wd_1558 (c_X12_slips hf e2) (r_recv C.1 hw ct8 (o_300 hf)) rfl ⟨Nat.le_of_ble_eq_true rfl, Nat.le_of_ble_eq_true rfl⟩ (And.intro (by show _ ≤ 601024; omega) (by show _ ≤ 7293034; omega)) rfl rfl (Nat.le_of_ble_eq_true rfl) dl_1338 (fun H locs hw => ?_)
  refine lv_icmp_eq (tgt := 1661) hx hb dl_1341 (by decide) (fun hc => ?_) (fun hc => absurd rfl hc)
  exact W.widen (Nat.le_add_right _ _) (Nat.le_add_right _ _) (kk χ1 σ1 hR1 _ _ _ hw hl)
theorem l_case_43 {p : Program} {l : Launch} {e : Env} {s : State} {m : MethodId} {below : List Frame} {meth : Method} {c : Code} {b L : Nat} {xs : Nat → Int32} {G : gT} (C : LC p l s m meth c b L xs G) {i : Nat} (hi : i + 6 ≤ L) {cells slots : Nat} (hcs : cells + 1 ≤ 601024 ∧ slots + 6 ≤ 7293034) {Rel : St → St → Prop} (hok : ok_43 Rel) {χ σ : St} (hR : Rel χ σ)
    (kk : ∀ χ1 σ1, Rel χ1 σ1 → LAt p l e s m below meth c b G (cells + 1) (slots + 6) 1661 i χ1 σ1) : LAt p l e s m below meth c b G cells slots 1346 i χ σ := by
  intro H locs ls hw hl
  have hx := C.1.1
  have hb := C.1.2.1
  have hf := C.2.2.2.2.2.2.2.1
  obtain ⟨v, χ1, σ1, e1, e2, hR1⟩ := hok χ σ (xs (i + 1)) (xs (i + 2)) (xs (i + 3)) (xs (i + 4)) (xs (i + 5)) hR
  refine lv_aload_n hx hb dl_1346 rfl (lv_at hl 1 rfl) ?_
  refine lv_aload_n hx hb dl_1347 rfl (lv_at hl 0 rfl) ?_
  refine lv_iload hx hb dl_1348 (lv_at hl 4 rfl) ?_
  refine lv_iconst (v := (1 : Int32)) hx hb dl_1350 (by decide) ?_
  refine lv_iadd hx hb dl_1351 ?_
  refine l_ld (k := 1) C hw hi (by decide) (by decide) dl_1352 ?_
  refine lv_aload_n hx hb dl_1353 rfl (lv_at hl 0 rfl) ?_
  refine lv_iload hx hb dl_1354 (lv_at hl 4 rfl) ?_
  refine lv_iconst (v := (2 : Int32)) hx hb dl_1356 (by decide) ?_
  refine lv_iadd hx hb dl_1357 ?_
  refine l_ld (k := 2) C hw hi (by decide) (by decide) dl_1358 ?_
  refine lv_aload_n hx hb dl_1359 rfl (lv_at hl 0 rfl) ?_
  refine lv_iload hx hb dl_1360 (lv_at hl 4 rfl) ?_
  refine lv_iconst (v := (3 : Int32)) hx hb dl_1362 (by decide) ?_
  refine lv_iadd hx hb dl_1363 ?_
  refine l_ld (k := 3) C hw hi (by decide) (by decide) dl_1364 ?_
  refine lv_aload_n hx hb dl_1365 rfl (lv_at hl 0 rfl) ?_
  refine lv_iload hx hb dl_1366 (lv_at hl 4 rfl) ?_
  refine lv_iconst (v := (4 : Int32)) hx hb dl_1368 (by decide) ?_
  refine lv_iadd hx hb dl_1369 ?_
  refine l_ld (k := 4) C hw hi (by decide) (by decide) dl_1370 ?_
  refine lv_aload_n hx hb dl_1371 rfl (lv_at hl 0 rfl) ?_
  refine lv_iload hx hb dl_1372 (lv_at hl 4 rfl) ?_
  refine lv_iconst (v := (5 : Int32)) hx hb dl_1374 (by decide) ?_
  refine lv_iadd hx hb dl_1375 ?_
  refine l_ld (k := 5) C hw hi (by decide) (by decide) dl_1376 ?_
  refine r_callV (As := [.int (xs (i + 1)), .int (xs (i + 2)), .int (xs (i + 3)), .int (xs (i + 4)), .int (xs (i + 5))]) (rest := []) (st' := [.int v]) C.1 hw hl mwX11_sound wd_787 wd_788 wd_786 (c_X11_sound hf e1) (r_recv C.1 hw ct7 (o_0 hf)) rfl ⟨Nat.le_of_ble_eq_true rfl, Nat.le_of_ble_eq_true rfl⟩ (And.intro (by show _ ≤ 601024; omega) (by show _ ≤ 7293034; omega)) rfl rfl (Nat.le_of_ble_eq_true rfl) dl_1377 (fun H locs hw => ?_)
  refine lv_aload_n hx hb dl_1380 rfl (lv_at hl 2 rfl) ?_
  refine lv_aload_n hx hb dl_1381 rfl (lv_at hl 0 rfl) ?_
  refine lv_iload hx hb dl_1382 (lv_at hl 4 rfl) ?_
  refine lv_iconst (v := (1 : Int32)) hx hb dl_1384 (by decide) ?_
  refine lv_iadd hx hb dl_1385 ?_
  refine l_ld (k := 1) C hw hi (by decide) (by decide) dl_1386 ?_
  refine lv_aload_n hx hb dl_1387 rfl (lv_at hl 0 rfl) ?_
  refine lv_iload hx hb dl_1388 (lv_at hl 4 rfl) ?_
  refine lv_iconst (v := (2 : Int32)) hx hb dl_1390 (by decide) ?_
  refine lv_iadd hx hb dl_1391 ?_
  refine l_ld (k := 2) C hw hi (by decide) (by decide) dl_1392 ?_
  refine lv_aload_n hx hb dl_1393 rfl (lv_at hl 0 rfl) ?_
  refine lv_iload hx hb dl_1394 (lv_at hl 4 rfl) ?_
  refine lv_iconst (v := (3 : Int32)) hx hb dl_1396 (by decide) ?_
  refine lv_iadd hx hb dl_1397 ?_
  refine l_ld (k := 3) C hw hi (by decide) (by decide) dl_1398 ?_
  refine lv_aload_n hx hb dl_1399 rfl (lv_at hl 0 rfl) ?_
  refine lv_iload hx hb dl_1400 (lv_at hl 4 rfl) ?_
  refine lv_iconst (v := (4 : Int32)) hx hb dl_1402 (by decide) ?_
  refine lv_iadd hx hb dl_1403 ?_
  refine l_ld (k := 4) C hw hi (by decide) (by decide) dl_1404 ?_
  refine lv_aload_n hx hb dl_1405 rfl (lv_at hl 0 rfl) ?_
  refine lv_iload hx hb dl_1406 (lv_at hl 4 rfl) ?_
  refine lv_iconst (v := (5 : Int32)) hx hb dl_1408 (by decide) ?_
  refine lv_iadd hx hb dl_1409 ?_
  refine l_ld (k := 5) C hw hi (by decide) (by decide) dl_1410 ?_
  refine r_callV (As := [.int (xs (i + 1)), .int (xs (i + 2)), .int (xs (i + 3)), .int (xs (i + 4)), .int (xs (i + 5))]) (rest := [.int v]) (st' := [.int v, .int v]) C.1 hw hl mwX12_sound wd_1564 wd_1565 wd_1563 (c_X12_sound hf e2) (r_recv C.1 hw ct8 (o_300 hf)) rfl ⟨Nat.le_of_ble_eq_true rfl, Nat.le_of_ble_eq_true rfl⟩ (And.intro (by show _ ≤ 601024; omega) (by show _ ≤ 7293034; omega)) rfl rfl (Nat.le_of_ble_eq_true rfl) dl_1411 (fun H locs hw => ?_)
  refine lv_icmp_eq (tgt := 1661) hx hb dl_1414 (by decide) (fun hc => ?_) (fun hc => absurd rfl hc)
  exact W.widen (Nat.le_add_right _ _) (Nat.le_add_right _ _) (kk χ1 σ1 hR1 _ _ _ hw hl)
theorem l_case_44 {p : Program} {l : Launch} {e : Env} {s : State} {m : MethodId} {below : List Frame} {meth : Method} {c : Code} {b L : Nat} {xs : Nat → Int32} {G : gT} (C : LC p l s m meth c b L xs G) {i : Nat} (hi : i + 6 ≤ L) {cells slots : Nat} (hcs : cells + 1 ≤ 601024 ∧ slots + 6 ≤ 7293034) {Rel : St → St → Prop} (hok : ok_44 Rel) {χ σ : St} (hR : Rel χ σ)
    (kk : ∀ χ1 σ1, Rel χ1 σ1 → LAt p l e s m below meth c b G (cells + 1) (slots + 6) 1661 i χ1 σ1) : LAt p l e s m below meth c b G cells slots 1419 i χ σ := by
  intro H locs ls hw hl
  have hx := C.1.1
  have hb := C.1.2.1
  have hf := C.2.2.2.2.2.2.2.1
  obtain ⟨v, σ1, e1, e2, hR1⟩ := hok χ σ (xs (i + 1)) (xs (i + 2)) hR
  refine lv_aload_n hx hb dl_1419 rfl (lv_at hl 1 rfl) ?_
  refine lv_aload_n hx hb dl_1420 rfl (lv_at hl 0 rfl) ?_
  refine lv_iload hx hb dl_1421 (lv_at hl 4 rfl) ?_
  refine lv_iconst (v := (1 : Int32)) hx hb dl_1423 (by decide) ?_
  refine lv_iadd hx hb dl_1424 ?_
  refine l_ld (k := 1) C hw hi (by decide) (by decide) dl_1425 ?_
  refine lv_aload_n hx hb dl_1426 rfl (lv_at hl 0 rfl) ?_
  refine lv_iload hx hb dl_1427 (lv_at hl 4 rfl) ?_
  refine lv_iconst (v := (2 : Int32)) hx hb dl_1429 (by decide) ?_
  refine lv_iadd hx hb dl_1430 ?_
  refine l_ld (k := 2) C hw hi (by decide) (by decide) dl_1431 ?_
  refine r_callV (As := [.int (xs (i + 1)), .int (xs (i + 2))]) (rest := []) (st' := [.int v]) C.1 hw hl mwX11_firm wd_795 wd_796 wd_794 (c_X11_firm hf e1) (r_recv C.1 hw ct7 (o_0 hf)) rfl ⟨Nat.le_of_ble_eq_true rfl, Nat.le_of_ble_eq_true rfl⟩ (And.intro (by show _ ≤ 601024; omega) (by show _ ≤ 7293034; omega)) rfl rfl (Nat.le_of_ble_eq_true rfl) dl_1432 (fun H locs hw => ?_)
  refine lv_aload_n hx hb dl_1435 rfl (lv_at hl 2 rfl) ?_
  refine lv_aload_n hx hb dl_1436 rfl (lv_at hl 0 rfl) ?_
  refine lv_iload hx hb dl_1437 (lv_at hl 4 rfl) ?_
  refine lv_iconst (v := (1 : Int32)) hx hb dl_1439 (by decide) ?_
  refine lv_iadd hx hb dl_1440 ?_
  refine l_ld (k := 1) C hw hi (by decide) (by decide) dl_1441 ?_
  refine lv_aload_n hx hb dl_1442 rfl (lv_at hl 0 rfl) ?_
  refine lv_iload hx hb dl_1443 (lv_at hl 4 rfl) ?_
  refine lv_iconst (v := (2 : Int32)) hx hb dl_1445 (by decide) ?_
  refine lv_iadd hx hb dl_1446 ?_
  refine l_ld (k := 2) C hw hi (by decide) (by decide) dl_1447 ?_
  refine r_callV (As := [.int (xs (i + 1)), .int (xs (i + 2))]) (rest := [.int v]) (st' := [.int v, .int v]) C.1 hw hl mwX12_firm wd_1568 wd_1569 wd_1567 (c_X12_firm hf e2) (r_recv C.1 hw ct8 (o_300 hf)) rfl ⟨Nat.le_of_ble_eq_true rfl, Nat.le_of_ble_eq_true rfl⟩ (And.intro (by show _ ≤ 601024; omega) (by show _ ≤ 7293034; omega)) rfl rfl (Nat.le_of_ble_eq_true rfl) dl_1448 (fun H locs hw => ?_)
  refine lv_icmp_eq (tgt := 1661) hx hb dl_1451 (by decide) (fun hc => ?_) (fun hc => absurd rfl hc)
  exact W.widen (Nat.le_add_right _ _) (Nat.le_add_right _ _) (kk χ σ1 hR1 _ _ _ hw hl)
theorem l_case_45 {p : Program} {l : Launch} {e : Env} {s : State} {m : MethodId} {below : List Frame} {meth : Method} {c : Code} {b L : Nat} {xs : Nat → Int32} {G : gT} (C : LC p l s m meth c b L xs G) {i : Nat} (hi : i + 6 ≤ L) {cells slots : Nat} (hcs : cells + 1 ≤ 601024 ∧ slots + 6 ≤ 7293034) {Rel : St → St → Prop} (hok : ok_45 Rel) {χ σ : St} (hR : Rel χ σ)
    (kk : ∀ χ1 σ1, Rel χ1 σ1 → LAt p l e s m below meth c b G (cells + 1) (slots + 6) 1661 i χ1 σ1) : LAt p l e s m below meth c b G cells slots 1456 i χ σ := by
  intro H locs ls hw hl
  have hx := C.1.1
  have hb := C.1.2.1
  have hf := C.2.2.2.2.2.2.2.1
  obtain ⟨v, χ1, σ1, e1, e2, hR1⟩ := hok χ σ hR
  refine lv_aload_n hx hb dl_1456 rfl (lv_at hl 1 rfl) ?_
  refine r_callV (As := []) (rest := []) (st' := [.int v]) C.1 hw hl mwX11_law wd_808 wd_809 wd_807 (c_X11_law hf e1) (r_recv C.1 hw ct7 (o_0 hf)) rfl ⟨Nat.le_of_ble_eq_true rfl, Nat.le_of_ble_eq_true rfl⟩ (And.intro (by show _ ≤ 601024; omega) (by show _ ≤ 7293034; omega)) rfl rfl (Nat.le_of_ble_eq_true rfl) dl_1457 (fun H locs hw => ?_)
  refine lv_aload_n hx hb dl_1460 rfl (lv_at hl 2 rfl) ?_
  refine r_callV (As := []) (rest := [.int v]) (st' := [.int v, .int v]) C.1 hw hl mwX12_law wd_1577 wd_1578 wd_1576 (c_X12_law hf e2) (r_recv C.1 hw ct8 (o_300 hf)) rfl ⟨Nat.le_of_ble_eq_true rfl, Nat.le_of_ble_eq_true rfl⟩ (And.intro (by show _ ≤ 601024; omega) (by show _ ≤ 7293034; omega)) rfl rfl (Nat.le_of_ble_eq_true rfl) dl_1461 (fun H locs hw => ?_)
  refine lv_icmp_eq (tgt := 1661) hx hb dl_1464 (by decide) (fun hc => ?_) (fun hc => absurd rfl hc)
  exact W.widen (Nat.le_add_right _ _) (Nat.le_add_right _ _) (kk χ1 σ1 hR1 _ _ _ hw hl)
theorem l_case_46 {p : Program} {l : Launch} {e : Env} {s : State} {m : MethodId} {below : List Frame} {meth : Method} {c : Code} {b L : Nat} {xs : Nat → Int32} {G : gT} (C : LC p l s m meth c b L xs G) {i : Nat} (hi : i + 6 ≤ L) {cells slots : Nat} (hcs : cells + 1 ≤ 601024 ∧ slots + 6 ≤ 7293034) {Rel : St → St → Prop} (hok : ok_46 Rel) {χ σ : St} (hR : Rel χ σ)
    (kk : ∀ χ1 σ1, Rel χ1 σ1 → LAt p l e s m below meth c b G (cells + 1) (slots + 6) 1661 i χ1 σ1) : LAt p l e s m below meth c b G cells slots 1469 i χ σ := by
  intro H locs ls hw hl
  have hx := C.1.1
  have hb := C.1.2.1
  have hf := C.2.2.2.2.2.2.2.1
  obtain ⟨v, χ1, σ1, e1, e2, hR1⟩ := hok χ σ (xs (i + 1)) hR
  refine lv_aload_n hx hb dl_1469 rfl (lv_at hl 1 rfl) ?_
  refine lv_aload_n hx hb dl_1470 rfl (lv_at hl 0 rfl) ?_
  refine lv_iload hx hb dl_1471 (lv_at hl 4 rfl) ?_
  refine lv_iconst (v := (1 : Int32)) hx hb dl_1473 (by decide) ?_
  refine lv_iadd hx hb dl_1474 ?_
  refine l_ld (k := 1) C hw hi (by decide) (by decide) dl_1475 ?_
  refine r_callV (As := [.int (xs (i + 1))]) (rest := []) (st' := [.int v]) C.1 hw hl mwX11_wordings wd_818 wd_819 wd_817 (c_X11_wordings hf e1) (r_recv C.1 hw ct7 (o_0 hf)) rfl ⟨Nat.le_of_ble_eq_true rfl, Nat.le_of_ble_eq_true rfl⟩ (And.intro (by show _ ≤ 601024; omega) (by show _ ≤ 7293034; omega)) rfl rfl (Nat.le_of_ble_eq_true rfl) dl_1476 (fun H locs hw => ?_)
  refine lv_aload_n hx hb dl_1479 rfl (lv_at hl 2 rfl) ?_
  refine lv_aload_n hx hb dl_1480 rfl (lv_at hl 0 rfl) ?_
  refine lv_iload hx hb dl_1481 (lv_at hl 4 rfl) ?_
  refine lv_iconst (v := (1 : Int32)) hx hb dl_1483 (by decide) ?_
  refine lv_iadd hx hb dl_1484 ?_
  refine l_ld (k := 1) C hw hi (by decide) (by decide) dl_1485 ?_
  refine r_callV (As := [.int (xs (i + 1))]) (rest := [.int v]) (st' := [.int v, .int v]) C.1 hw hl mwX12_wordings wd_1586 wd_1587 wd_1585 (c_X12_wordings hf e2) (r_recv C.1 hw ct8 (o_300 hf)) rfl ⟨Nat.le_of_ble_eq_true rfl, Nat.le_of_ble_eq_true rfl⟩ (And.intro (by show _ ≤ 601024; omega) (by show _ ≤ 7293034; omega)) rfl rfl (Nat.le_of_ble_eq_true rfl) dl_1486 (fun H locs hw => ?_)
  refine lv_icmp_eq (tgt := 1661) hx hb dl_1489 (by decide) (fun hc => ?_) (fun hc => absurd rfl hc)
  exact W.widen (Nat.le_add_right _ _) (Nat.le_add_right _ _) (kk χ1 σ1 hR1 _ _ _ hw hl)
theorem l_case_47 {p : Program} {l : Launch} {e : Env} {s : State} {m : MethodId} {below : List Frame} {meth : Method} {c : Code} {b L : Nat} {xs : Nat → Int32} {G : gT} (C : LC p l s m meth c b L xs G) {i : Nat} (hi : i + 6 ≤ L) {cells slots : Nat} (hcs : cells + 1 ≤ 601024 ∧ slots + 6 ≤ 7293034) {Rel : St → St → Prop} (hok : ok_47 Rel) {χ σ : St} (hR : Rel χ σ)
    (kk : ∀ χ1 σ1, Rel χ1 σ1 → LAt p l e s m below meth c b G (cells + 1) (slots + 6) 1661 i χ1 σ1) : LAt p l e s m below meth c b G cells slots 1494 i χ σ := by
  intro H locs ls hw hl
  have hx := C.1.1
  have hb := C.1.2.1
  have hf := C.2.2.2.2.2.2.2.1
  obtain ⟨v, χ1, σ1, e1, e2, hR1⟩ := hok χ σ (xs (i + 1)) (xs (i + 2)) hR
  refine lv_aload_n hx hb dl_1494 rfl (lv_at hl 1 rfl) ?_
  refine lv_aload_n hx hb dl_1495 rfl (lv_at hl 0 rfl) ?_
  refine lv_iload hx hb dl_1496 (lv_at hl 4 rfl) ?_
  refine lv_iconst (v := (1 : Int32)) hx hb dl_1498 (by decide) ?_
  refine lv_iadd hx hb dl_1499 ?_
  refine l_ld (k := 1) C hw hi (by decide) (by decide) dl_1500 ?_
  refine lv_aload_n hx hb dl_1501 rfl (lv_at hl 0 rfl) ?_
  refine lv_iload hx hb dl_1502 (lv_at hl 4 rfl) ?_
  refine lv_iconst (v := (2 : Int32)) hx hb dl_1504 (by decide) ?_
  refine lv_iadd hx hb dl_1505 ?_
  refine l_ld (k := 2) C hw hi (by decide) (by decide) dl_1506 ?_
  refine r_callV (As := [.int (xs (i + 1)), .int (xs (i + 2))]) (rest := []) (st' := [.int v]) C.1 hw hl mwX11_years wd_832 wd_833 wd_831 (c_X11_years hf e1) (r_recv C.1 hw ct7 (o_0 hf)) rfl ⟨Nat.le_of_ble_eq_true rfl, Nat.le_of_ble_eq_true rfl⟩ (And.intro (by show _ ≤ 601024; omega) (by show _ ≤ 7293034; omega)) rfl rfl (Nat.le_of_ble_eq_true rfl) dl_1507 (fun H locs hw => ?_)
  refine lv_aload_n hx hb dl_1510 rfl (lv_at hl 2 rfl) ?_
  refine lv_aload_n hx hb dl_1511 rfl (lv_at hl 0 rfl) ?_
  refine lv_iload hx hb dl_1512 (lv_at hl 4 rfl) ?_
  refine lv_iconst (v := (1 : Int32)) hx hb dl_1514 (by decide) ?_
  refine lv_iadd hx hb dl_1515 ?_
  refine l_ld (k := 1) C hw hi (by decide) (by decide) dl_1516 ?_
  refine lv_aload_n hx hb dl_1517 rfl (lv_at hl 0 rfl) ?_
  refine lv_iload hx hb dl_1518 (lv_at hl 4 rfl) ?_
  refine lv_iconst (v := (2 : Int32)) hx hb dl_1520 (by decide) ?_
  refine lv_iadd hx hb dl_1521 ?_
  refine l_ld (k := 2) C hw hi (by decide) (by decide) dl_1522 ?_
  refine r_callV (As := [.int (xs (i + 1)), .int (xs (i + 2))]) (rest := [.int v]) (st' := [.int v, .int v]) C.1 hw hl mwX12_years wd_1596 wd_1597 wd_1595 (c_X12_years hf e2) (r_recv C.1 hw ct8 (o_300 hf)) rfl ⟨Nat.le_of_ble_eq_true rfl, Nat.le_of_ble_eq_true rfl⟩ (And.intro (by show _ ≤ 601024; omega) (by show _ ≤ 7293034; omega)) rfl rfl (Nat.le_of_ble_eq_true rfl) dl_1523 (fun H locs hw => ?_)
  refine lv_icmp_eq (tgt := 1661) hx hb dl_1526 (by decide) (fun hc => ?_) (fun hc => absurd rfl hc)
  exact W.widen (Nat.le_add_right _ _) (Nat.le_add_right _ _) (kk χ1 σ1 hR1 _ _ _ hw hl)
theorem l_case_48 {p : Program} {l : Launch} {e : Env} {s : State} {m : MethodId} {below : List Frame} {meth : Method} {c : Code} {b L : Nat} {xs : Nat → Int32} {G : gT} (C : LC p l s m meth c b L xs G) {i : Nat} (hi : i + 6 ≤ L) {cells slots : Nat} (hcs : cells + 1 ≤ 601024 ∧ slots + 6 ≤ 7293034) {Rel : St → St → Prop} (hok : ok_48 Rel) {χ σ : St} (hR : Rel χ σ)
    (kk : ∀ χ1 σ1, Rel χ1 σ1 → LAt p l e s m below meth c b G (cells + 1) (slots + 6) 1661 i χ1 σ1) : LAt p l e s m below meth c b G cells slots 1531 i χ σ := by
  intro H locs ls hw hl
  have hx := C.1.1
  have hb := C.1.2.1
  have hf := C.2.2.2.2.2.2.2.1
  obtain ⟨v, χ1, σ1, e1, e2, hR1⟩ := hok χ σ (xs (i + 1)) hR
  refine lv_aload_n hx hb dl_1531 rfl (lv_at hl 1 rfl) ?_
  refine lv_aload_n hx hb dl_1532 rfl (lv_at hl 0 rfl) ?_
  refine lv_iload hx hb dl_1533 (lv_at hl 4 rfl) ?_
  refine lv_iconst (v := (1 : Int32)) hx hb dl_1535 (by decide) ?_
  refine lv_iadd hx hb dl_1536 ?_
  refine l_ld (k := 1) C hw hi (by decide) (by decide) dl_1537 ?_
  refine r_callV (As := [.int (xs (i + 1))]) (rest := []) (st' := [.int v]) C.1 hw hl mwX11_keep wd_847 wd_848 wd_846 (c_X11_keep hf e1) (r_recv C.1 hw ct7 (o_0 hf)) rfl ⟨Nat.le_of_ble_eq_true rfl, Nat.le_of_ble_eq_true rfl⟩ (And.intro (by show _ ≤ 601024; omega) (by show _ ≤ 7293034; omega)) rfl rfl (Nat.le_of_ble_eq_true rfl) dl_1538 (fun H locs hw => ?_)
  refine lv_aload_n hx hb dl_1541 rfl (lv_at hl 2 rfl) ?_
  refine lv_aload_n hx hb dl_1542 rfl (lv_at hl 0 rfl) ?_
  refine lv_iload hx hb dl_1543 (lv_at hl 4 rfl) ?_
  refine lv_iconst (v := (1 : Int32)) hx hb dl_1545 (by decide) ?_
  refine lv_iadd hx hb dl_1546 ?_
  refine l_ld (k := 1) C hw hi (by decide) (by decide) dl_1547 ?_
  refine r_callV (As := [.int (xs (i + 1))]) (rest := [.int v]) (st' := [.int v, .int v]) C.1 hw hl mwX12_keep wd_1605 wd_1606 wd_1604 (c_X12_keep hf e2) (r_recv C.1 hw ct8 (o_300 hf)) rfl ⟨Nat.le_of_ble_eq_true rfl, Nat.le_of_ble_eq_true rfl⟩ (And.intro (by show _ ≤ 601024; omega) (by show _ ≤ 7293034; omega)) rfl rfl (Nat.le_of_ble_eq_true rfl) dl_1548 (fun H locs hw => ?_)
  refine lv_icmp_eq (tgt := 1661) hx hb dl_1551 (by decide) (fun hc => ?_) (fun hc => absurd rfl hc)
  exact W.widen (Nat.le_add_right _ _) (Nat.le_add_right _ _) (kk χ1 σ1 hR1 _ _ _ hw hl)
theorem l_case_49 {p : Program} {l : Launch} {e : Env} {s : State} {m : MethodId} {below : List Frame} {meth : Method} {c : Code} {b L : Nat} {xs : Nat → Int32} {G : gT} (C : LC p l s m meth c b L xs G) {i : Nat} (hi : i + 6 ≤ L) {cells slots : Nat} (hcs : cells + 1 ≤ 601024 ∧ slots + 6 ≤ 7293034) {Rel : St → St → Prop} (hok : ok_49 Rel) {χ σ : St} (hR : Rel χ σ)
    (kk : ∀ χ1 σ1, Rel χ1 σ1 → LAt p l e s m below meth c b G (cells + 1) (slots + 6) 1661 i χ1 σ1) : LAt p l e s m below meth c b G cells slots 1556 i χ σ := by
  intro H locs ls hw hl
  have hx := C.1.1
  have hb := C.1.2.1
  have hf := C.2.2.2.2.2.2.2.1
  obtain ⟨v, χ1, σ1, e1, e2, hR1⟩ := hok χ σ (xs (i + 1)) hR
  refine lv_aload_n hx hb dl_1556 rfl (lv_at hl 1 rfl) ?_
  refine lv_aload_n hx hb dl_1557 rfl (lv_at hl 0 rfl) ?_
  refine lv_iload hx hb dl_1558 (lv_at hl 4 rfl) ?_
  refine lv_iconst (v := (1 : Int32)) hx hb dl_1560 (by decide) ?_
  refine lv_iadd hx hb dl_1561 ?_
  refine l_ld (k := 1) C hw hi (by decide) (by decide) dl_1562 ?_
  refine r_callV (As := [.int (xs (i + 1))]) (rest := []) (st' := [.int v]) C.1 hw hl mwX11_again wd_855 wd_856 wd_854 (c_X11_again hf e1) (r_recv C.1 hw ct7 (o_0 hf)) rfl ⟨Nat.le_of_ble_eq_true rfl, Nat.le_of_ble_eq_true rfl⟩ (And.intro (by show _ ≤ 601024; omega) (by show _ ≤ 7293034; omega)) rfl rfl (Nat.le_of_ble_eq_true rfl) dl_1563 (fun H locs hw => ?_)
  refine lv_aload_n hx hb dl_1566 rfl (lv_at hl 2 rfl) ?_
  refine lv_aload_n hx hb dl_1567 rfl (lv_at hl 0 rfl) ?_
  refine lv_iload hx hb dl_1568 (lv_at hl 4 rfl) ?_
  refine lv_iconst (v := (1 : Int32)) hx hb dl_1570 (by decide) ?_
  refine lv_iadd hx hb dl_1571 ?_
  refine l_ld (k := 1) C hw hi (by decide) (by decide) dl_1572 ?_
  refine r_callV (As := [.int (xs (i + 1))]) (rest := [.int v]) (st' := [.int v, .int v]) C.1 hw hl mwX12_again wd_1609 wd_1610 wd_1608 (c_X12_again hf e2) (r_recv C.1 hw ct8 (o_300 hf)) rfl ⟨Nat.le_of_ble_eq_true rfl, Nat.le_of_ble_eq_true rfl⟩ (And.intro (by show _ ≤ 601024; omega) (by show _ ≤ 7293034; omega)) rfl rfl (Nat.le_of_ble_eq_true rfl) dl_1573 (fun H locs hw => ?_)
  refine lv_icmp_eq (tgt := 1661) hx hb dl_1576 (by decide) (fun hc => ?_) (fun hc => absurd rfl hc)
  exact W.widen (Nat.le_add_right _ _) (Nat.le_add_right _ _) (kk χ1 σ1 hR1 _ _ _ hw hl)
theorem l_case_50 {p : Program} {l : Launch} {e : Env} {s : State} {m : MethodId} {below : List Frame} {meth : Method} {c : Code} {b L : Nat} {xs : Nat → Int32} {G : gT} (C : LC p l s m meth c b L xs G) {i : Nat} (hi : i + 6 ≤ L) {cells slots : Nat} (hcs : cells + 1 ≤ 601024 ∧ slots + 6 ≤ 7293034) {Rel : St → St → Prop} (hok : ok_50 Rel) {χ σ : St} (hR : Rel χ σ)
    (kk : ∀ χ1 σ1, Rel χ1 σ1 → LAt p l e s m below meth c b G (cells + 1) (slots + 6) 1661 i χ1 σ1) : LAt p l e s m below meth c b G cells slots 1581 i χ σ := by
  intro H locs ls hw hl
  have hx := C.1.1
  have hb := C.1.2.1
  have hf := C.2.2.2.2.2.2.2.1
  obtain ⟨v, σ1, e1, e2, hR1⟩ := hok χ σ (xs (i + 1)) hR
  refine lv_aload_n hx hb dl_1581 rfl (lv_at hl 1 rfl) ?_
  refine lv_aload_n hx hb dl_1582 rfl (lv_at hl 0 rfl) ?_
  refine lv_iload hx hb dl_1583 (lv_at hl 4 rfl) ?_
  refine lv_iconst (v := (1 : Int32)) hx hb dl_1585 (by decide) ?_
  refine lv_iadd hx hb dl_1586 ?_
  refine l_ld (k := 1) C hw hi (by decide) (by decide) dl_1587 ?_
  refine r_callV (As := [.int (xs (i + 1))]) (rest := []) (st' := [.int v]) C.1 hw hl mwX11_count wd_864 wd_865 wd_863 (c_X11_count hf e1) (r_recv C.1 hw ct7 (o_0 hf)) rfl ⟨Nat.le_of_ble_eq_true rfl, Nat.le_of_ble_eq_true rfl⟩ (And.intro (by show _ ≤ 601024; omega) (by show _ ≤ 7293034; omega)) rfl rfl (Nat.le_of_ble_eq_true rfl) dl_1588 (fun H locs hw => ?_)
  refine lv_aload_n hx hb dl_1591 rfl (lv_at hl 2 rfl) ?_
  refine lv_aload_n hx hb dl_1592 rfl (lv_at hl 0 rfl) ?_
  refine lv_iload hx hb dl_1593 (lv_at hl 4 rfl) ?_
  refine lv_iconst (v := (1 : Int32)) hx hb dl_1595 (by decide) ?_
  refine lv_iadd hx hb dl_1596 ?_
  refine l_ld (k := 1) C hw hi (by decide) (by decide) dl_1597 ?_
  refine r_callV (As := [.int (xs (i + 1))]) (rest := [.int v]) (st' := [.int v, .int v]) C.1 hw hl mwX12_count wd_1613 wd_1614 wd_1612 (c_X12_count hf e2) (r_recv C.1 hw ct8 (o_300 hf)) rfl ⟨Nat.le_of_ble_eq_true rfl, Nat.le_of_ble_eq_true rfl⟩ (And.intro (by show _ ≤ 601024; omega) (by show _ ≤ 7293034; omega)) rfl rfl (Nat.le_of_ble_eq_true rfl) dl_1598 (fun H locs hw => ?_)
  refine lv_icmp_eq (tgt := 1661) hx hb dl_1601 (by decide) (fun hc => ?_) (fun hc => absurd rfl hc)
  exact W.widen (Nat.le_add_right _ _) (Nat.le_add_right _ _) (kk χ σ1 hR1 _ _ _ hw hl)
