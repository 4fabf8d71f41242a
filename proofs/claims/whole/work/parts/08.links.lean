/-! helpers of the printed walks; the links and the methods' words -/
/-- array indexes in range -/
abbrev ib (i : Int32) (n : Nat) : Prop := ¬ (i < 0 ∨ n ≤ i.toNatClampNeg)
/-- a value by a name -/
def nm {α β : Type} (x : α) (f : α → β) : β := f x
theorem nmd {α β : Type} {x : α} {f : α → β} {z : β} (h : nm x f = z) : ∃ q, x = q ∧ f q = z := ⟨x, rfl, h⟩
theorem tn {x v : Int32} {k : Int} (h : ¬ x = v) (hv : v.toInt = k) : x.toInt ≠ k := fun e => h (Int32.toInt_inj.mp (e.trans hv.symm))
section RUN
variable {p : Program} {l : Launch} {e : Env} {R : Room} {s : State} {m : MethodId} {args : Array Value} {below : List Frame} {meth : Method} {c : Code} {D : va_G} {ad : Nat → Nat} {tc : Nat → ClassId} {nL : Nat} {A : Nat → Prop} {H0 : Heap} {cells slots : Nat} {Q : State → Prop}
variable {o pc pc' : Nat} {cc : ByteArray} {L : List (Nat × Value)} {st : List Value} {σ σ2 : Sg} {O : Prop}
theorem aw_run (hC : Cx p s m args meth c o cc nL D tc) (is : List AI) (hk : chk o nL cc pc is = true) (L' : List (Nat × Value)) (st' : List Value) (σ' : Sg) (he : blk is L st σ = some (L', st', σ', O)) (hpc : pcs pc is = pc') (hO : O) (hs : σ' = σ2) (kk : AW p l e R s m args below meth c D ad tc nL A H0 cells slots Q pc' L' st' σ2) : AW p l e R s m args below meth c D ad tc nL A H0 cells slots Q pc L st σ := by
  subst hs
  exact aw_blk hC is hk L' st' σ' he hpc hO kk
theorem aw_pick (ks : List Nat) (L' : List (Nat × Value)) (h : ks.filterMap (fun k => L[k]?) = L') (kk : AW p l e R s m args below meth c D ad tc nL A H0 cells slots Q pc L' st σ) : AW p l e R s m args below meth c D ad tc nL A H0 cells slots Q pc L st σ := by
  refine aw_loc L' (fun q hq => ?_) kk
  subst h
  obtain ⟨i, -, hi⟩ := List.mem_filterMap.mp hq
  exact List.mem_of_getElem? hi
end RUN
theorem pS1 {α β : Type} {a : α} {b : β} {z : α × β} (h : some (a, b) = some z) : a = z.1 := by cases h; rfl
theorem pS2 {α β : Type} {a : α} {b : β} {z : α × β} (h : some (a, b) = some z) : b = z.2 := by cases h; rfl
theorem pT1 {α β : Type} {a : α} {b : β} {z : α × β} (h : (a, b) = z) : a = z.1 := by cases h; rfl
theorem pT2 {α β : Type} {a : α} {b : β} {z : α × β} (h : (a, b) = z) : b = z.2 := by cases h; rfl
/-- a method of the JDK's: its class has entries, the method none -/
theorem ct_startJ {y : MethodName} {bytes : ByteArray} {maxL : Nat} {ret : Option FieldType} {rm : Room} {as : List Value} {σ : Sg} {r : Option Value} {σ' : Sg} (o : Nat) (hy : plainFor y = true) (ho : y.cls = RN o) (hal : ∀ ad, (lg_sl (as.map (cv ad))).length ≤ maxL) (L : List (Nat × Value)) (hL : ∀ ad, clo ad L = lv_args 0 (as.map (cv ad)))
    (body : ∀ (p : Program) (l : Launch) (e : Env) (s : State) (m : MethodId) (args : Array Value) (below : List Frame) (meth : Method) (c : Code) (D : va_G) (ad : Nat → Nat) (tc : Nat → ClassId) (A : Nat → Prop), Cx p s m args meth c o bytes maxL D tc → (∀ q, s.heap.size ≤ q → A q) → meth.sig.returnType = ret →
      AW p l e rm s m args below meth c D ad tc maxL A s.heap 0 0 (MQ below (Qr r D ad tc σ' A) args s 0 0 A) 0 L [] σ) : Ctr y bytes maxL ret rm as σ r σ' := by
  intro l D ad tc sz
  refine va_MetF (cc := bytes) (maxL := maxL) (ret := ret) hy rfl ?_
  intro p e s m args below meth c s₁ B hml hv
  obtain ⟨rfl, hsz, hP, hK, hD0⟩ := hv
  subst hsz
  have hts := atoms_spec (ws := .code y bytes maxL ret :: tw) B.pre
  have hown : s.vm.findClass (RN o) = some m.cls := ho ▸ findClass_of_methodNamed B.named
  have hD := hD0.self (sz := s.heap.size)
  have hl := lv_entry (as.map (cv ad)) (n := maxL) (hal ad)
  rw [lg_entry_eq]
  rw [← hL ad] at hl
  exact body p l e s m _ below meth c D ad tc (va_A (wl ad tc σ) s.heap.size) ⟨B.exec, B.bytes, hml, hown, fun w hw => hts w (List.mem_cons_of_mem _ hw), hK, B.notSynchronized⟩ (fun q h => Or.inr h) B.returns s.heap [] _ hP hD va_S.rf hl
theorem mt_X6_letter : MtV yX6_letter 6 cX6_letter 2 (some .int) 1 := ⟨(tw_of 267 (by decide +kernel) rfl), (tw_of 265 (by decide +kernel) rfl), (tw_of 266 (by decide +kernel) rfl), (tw_of 73 (by decide +kernel) rfl), rfl, by decide, by decide, by decide +kernel⟩
theorem mt_X6_blank : MtV yX6_blank 6 cX6_blank 2 (some .int) 0 := ⟨(tw_of 273 (by decide +kernel) rfl), (tw_of 271 (by decide +kernel) rfl), (tw_of 272 (by decide +kernel) rfl), (tw_of 73 (by decide +kernel) rfl), rfl, by decide, by decide, by decide +kernel⟩
theorem mt_X2_enter : MtV yX2_enter 2 cX2_enter 2 none 1 := ⟨(tw_of 289 (by decide +kernel) rfl), (tw_of 288 (by decide +kernel) rfl), (tw_of 1 (by decide +kernel) rfl), (tw_of 74 (by decide +kernel) rfl), rfl, by decide, by decide, by decide +kernel⟩
theorem mt_X2_restart : MtV yX2_restart 2 cX2_restart 2 none 0 := ⟨(tw_of 285 (by decide +kernel) rfl), (tw_of 283 (by decide +kernel) rfl), (tw_of 284 (by decide +kernel) rfl), (tw_of 74 (by decide +kernel) rfl), rfl, by decide, by decide, by decide +kernel⟩
theorem mt_X2_markBehind : MtV yX2_markBehind 2 cX2_markBehind 1 (some .int) 0 := ⟨(tw_of 316 (by decide +kernel) rfl), (tw_of 315 (by decide +kernel) rfl), (tw_of 6 (by decide +kernel) rfl), (tw_of 74 (by decide +kernel) rfl), rfl, by decide, by decide, by decide +kernel⟩
theorem mt_X2_takeMark : MtV yX2_takeMark 2 cX2_takeMark 2 (some .boolean) 1 := ⟨(tw_of 312 (by decide +kernel) rfl), (tw_of 311 (by decide +kernel) rfl), (tw_of 5 (by decide +kernel) rfl), (tw_of 74 (by decide +kernel) rfl), rfl, by decide, by decide, by decide +kernel⟩
theorem mt_X2_takeMinus : MtV yX2_takeMinus 2 cX2_takeMinus 1 (some .boolean) 0 := ⟨(tw_of 308 (by decide +kernel) rfl), (tw_of 307 (by decide +kernel) rfl), (tw_of 4 (by decide +kernel) rfl), (tw_of 74 (by decide +kernel) rfl), rfl, by decide, by decide, by decide +kernel⟩
theorem mt_J9_abs_0f7a4 : MtS yJ9_abs_0f7a4 cJ9_abs_0f7a4 1 (some .int) 1 := ⟨(tw_of 300 (by decide +kernel) rfl), (tw_of 299 (by decide +kernel) rfl), (tw_of 81 (by decide +kernel) rfl), by decide, by decide, by decide +kernel⟩
theorem mt_X2_limit : MtV yX2_limit 2 cX2_limit 1 (some .int) 0 := ⟨(tw_of 304 (by decide +kernel) rfl), (tw_of 303 (by decide +kernel) rfl), (tw_of 3 (by decide +kernel) rfl), (tw_of 74 (by decide +kernel) rfl), rfl, by decide, by decide, by decide +kernel⟩
theorem mt_X2_takeFigure : MtV yX2_takeFigure 2 cX2_takeFigure 6 (some .boolean) 1 := ⟨(tw_of 297 (by decide +kernel) rfl), (tw_of 296 (by decide +kernel) rfl), (tw_of 2 (by decide +kernel) rfl), (tw_of 74 (by decide +kernel) rfl), rfl, by decide, by decide, by decide +kernel⟩
theorem mt_X2_take : MtV yX2_take 2 cX2_take 2 (some .boolean) 1 := ⟨(tw_of 293 (by decide +kernel) rfl), (tw_of 291 (by decide +kernel) rfl), (tw_of 292 (by decide +kernel) rfl), (tw_of 74 (by decide +kernel) rfl), rfl, by decide, by decide, by decide +kernel⟩
theorem mt_X6_readPage : MtV yX6_readPage 6 cX6_readPage 2 (some .int) 0 := ⟨(tw_of 281 (by decide +kernel) rfl), (tw_of 280 (by decide +kernel) rfl), (tw_of 0 (by decide +kernel) rfl), (tw_of 73 (by decide +kernel) rfl), rfl, by decide, by decide, by decide +kernel⟩
theorem mt_X6_fault : MtV yX6_fault 6 cX6_fault 1 (some .int) 0 := ⟨(tw_of 277 (by decide +kernel) rfl), (tw_of 275 (by decide +kernel) rfl), (tw_of 276 (by decide +kernel) rfl), (tw_of 73 (by decide +kernel) rfl), rfl, by decide, by decide, by decide +kernel⟩
theorem mt_X2_isMiss : MtV yX2_isMiss 2 cX2_isMiss 1 (some .boolean) 0 := ⟨(tw_of 328 (by decide +kernel) rfl), (tw_of 326 (by decide +kernel) rfl), (tw_of 327 (by decide +kernel) rfl), (tw_of 74 (by decide +kernel) rfl), rfl, by decide, by decide, by decide +kernel⟩
theorem mt_X2_isWhole : MtV yX2_isWhole 2 cX2_isWhole 1 (some .boolean) 0 := ⟨(tw_of 324 (by decide +kernel) rfl), (tw_of 322 (by decide +kernel) rfl), (tw_of 323 (by decide +kernel) rfl), (tw_of 74 (by decide +kernel) rfl), rfl, by decide, by decide, by decide +kernel⟩
theorem mt_X6_isBackGreat : MtS yX6_isBackGreat cX6_isBackGreat 3 (some .boolean) 3 := ⟨(tw_of 335 (by decide +kernel) rfl), (tw_of 334 (by decide +kernel) rfl), (tw_of 73 (by decide +kernel) rfl), by decide, by decide, by decide +kernel⟩
theorem mt_X2_isSound : MtV yX2_isSound 2 cX2_isSound 1 (some .boolean) 0 := ⟨(tw_of 332 (by decide +kernel) rfl), (tw_of 330 (by decide +kernel) rfl), (tw_of 331 (by decide +kernel) rfl), (tw_of 74 (by decide +kernel) rfl), rfl, by decide, by decide, by decide +kernel⟩
theorem mt_X2_number : MtV yX2_number 2 cX2_number 2 (some .int) 1 := ⟨(tw_of 339 (by decide +kernel) rfl), (tw_of 337 (by decide +kernel) rfl), (tw_of 338 (by decide +kernel) rfl), (tw_of 74 (by decide +kernel) rfl), rfl, by decide, by decide, by decide +kernel⟩
theorem mt_X3_find : MtV yX3_find 3 cX3_find 3 (some .int) 1 := ⟨(tw_of 343 (by decide +kernel) rfl), (tw_of 341 (by decide +kernel) rfl), (tw_of 342 (by decide +kernel) rfl), (tw_of 75 (by decide +kernel) rfl), rfl, by decide, by decide, by decide +kernel⟩
theorem mt_X3_isFull : MtV yX3_isFull 3 cX3_isFull 1 (some .boolean) 0 := ⟨(tw_of 348 (by decide +kernel) rfl), (tw_of 346 (by decide +kernel) rfl), (tw_of 347 (by decide +kernel) rfl), (tw_of 75 (by decide +kernel) rfl), rfl, by decide, by decide, by decide +kernel⟩
theorem mt_X3_add : MtV yX3_add 3 cX3_add 2 none 1 := ⟨(tw_of 352 (by decide +kernel) rfl), (tw_of 350 (by decide +kernel) rfl), (tw_of 351 (by decide +kernel) rfl), (tw_of 75 (by decide +kernel) rfl), rfl, by decide, by decide, by decide +kernel⟩
theorem mt_J6_bitCount_0f7a4 : MtS yJ6_bitCount_0f7a4 cJ6_bitCount_0f7a4 1 (some .int) 1 := ⟨(tw_of 388 (by decide +kernel) rfl), (tw_of 387 (by decide +kernel) rfl), (tw_of 82 (by decide +kernel) rfl), by decide, by decide, by decide +kernel⟩
theorem mt_X5_isCure : MtV yX5_isCure 5 cX5_isCure 3 (some .boolean) 1 := ⟨(tw_of 395 (by decide +kernel) rfl), (tw_of 394 (by decide +kernel) rfl), (tw_of 10 (by decide +kernel) rfl), (tw_of 76 (by decide +kernel) rfl), rfl, by decide, by decide, by decide +kernel⟩
theorem mt_X5_fewest : MtV yX5_fewest 5 cX5_fewest 5 (some .int) 1 := ⟨(tw_of 385 (by decide +kernel) rfl), (tw_of 384 (by decide +kernel) rfl), (tw_of 9 (by decide +kernel) rfl), (tw_of 76 (by decide +kernel) rfl), rfl, by decide, by decide, by decide +kernel⟩
theorem mt_X3_inner : MtV yX3_inner 3 cX3_inner 3 (some .int) 2 := ⟨(tw_of 377 (by decide +kernel) rfl), (tw_of 375 (by decide +kernel) rfl), (tw_of 376 (by decide +kernel) rfl), (tw_of 75 (by decide +kernel) rfl), rfl, by decide, by decide, by decide +kernel⟩
theorem mt_X3_outer : MtV yX3_outer 3 cX3_outer 3 (some .int) 2 := ⟨(tw_of 381 (by decide +kernel) rfl), (tw_of 379 (by decide +kernel) rfl), (tw_of 380 (by decide +kernel) rfl), (tw_of 75 (by decide +kernel) rfl), rfl, by decide, by decide, by decide +kernel⟩
theorem mt_X5_isDent : MtS yX5_isDent cX5_isDent 8 (some .boolean) 5 := ⟨(tw_of 373 (by decide +kernel) rfl), (tw_of 372 (by decide +kernel) rfl), (tw_of 76 (by decide +kernel) rfl), by decide, by decide, by decide +kernel⟩
theorem mt_X5_isClash : MtS yX5_isClash cX5_isClash 4 (some .boolean) 4 := ⟨(tw_of 370 (by decide +kernel) rfl), (tw_of 369 (by decide +kernel) rfl), (tw_of 76 (by decide +kernel) rfl), by decide, by decide, by decide +kernel⟩
theorem mt_X5_gather : MtV yX5_gather 5 cX5_gather 5 none 3 := ⟨(tw_of 367 (by decide +kernel) rfl), (tw_of 366 (by decide +kernel) rfl), (tw_of 8 (by decide +kernel) rfl), (tw_of 76 (by decide +kernel) rfl), rfl, by decide, by decide, by decide +kernel⟩
theorem mt_X5_judge : MtV yX5_judge 5 cX5_judge 4 none 1 := ⟨(tw_of 363 (by decide +kernel) rfl), (tw_of 361 (by decide +kernel) rfl), (tw_of 362 (by decide +kernel) rfl), (tw_of 76 (by decide +kernel) rfl), rfl, by decide, by decide, by decide +kernel⟩
theorem mt_X1_addPoint : MtV yX1_addPoint 1 cX1_addPoint 3 none 2 := ⟨(tw_of 408 (by decide +kernel) rfl), (tw_of 407 (by decide +kernel) rfl), (tw_of 12 (by decide +kernel) rfl), (tw_of 77 (by decide +kernel) rfl), rfl, by decide, by decide, by decide +kernel⟩
theorem mt_X1_collect : MtV yX1_collect 1 cX1_collect 3 none 1 := ⟨(tw_of 403 (by decide +kernel) rfl), (tw_of 402 (by decide +kernel) rfl), (tw_of 11 (by decide +kernel) rfl), (tw_of 77 (by decide +kernel) rfl), rfl, by decide, by decide, by decide +kernel⟩
theorem mt_X1_leftmost : MtV yX1_leftmost 1 cX1_leftmost 3 (some .int) 0 := ⟨(tw_of 412 (by decide +kernel) rfl), (tw_of 411 (by decide +kernel) rfl), (tw_of 13 (by decide +kernel) rfl), (tw_of 77 (by decide +kernel) rfl), rfl, by decide, by decide, by decide +kernel⟩
theorem mt_X1_square : MtS yX1_square cX1_square 2 (some .int) 2 := ⟨(tw_of 423 (by decide +kernel) rfl), (tw_of 422 (by decide +kernel) rfl), (tw_of 77 (by decide +kernel) rfl), by decide, by decide, by decide +kernel⟩
theorem mt_X1_isBeyond : MtV yX1_isBeyond 1 cX1_isBeyond 9 (some .boolean) 3 := ⟨(tw_of 420 (by decide +kernel) rfl), (tw_of 419 (by decide +kernel) rfl), (tw_of 15 (by decide +kernel) rfl), (tw_of 77 (by decide +kernel) rfl), rfl, by decide, by decide, by decide +kernel⟩
theorem mt_X1_next : MtV yX1_next 1 cX1_next 4 (some .int) 1 := ⟨(tw_of 416 (by decide +kernel) rfl), (tw_of 415 (by decide +kernel) rfl), (tw_of 14 (by decide +kernel) rfl), (tw_of 77 (by decide +kernel) rfl), rfl, by decide, by decide, by decide +kernel⟩
theorem mt_X1_wrap : MtV yX1_wrap 1 cX1_wrap 4 none 1 := ⟨(tw_of 399 (by decide +kernel) rfl), (tw_of 397 (by decide +kernel) rfl), (tw_of 398 (by decide +kernel) rfl), (tw_of 77 (by decide +kernel) rfl), rfl, by decide, by decide, by decide +kernel⟩
theorem mt_X6_settle : MtV yX6_settle 6 cX6_settle 1 none 0 := ⟨(tw_of 359 (by decide +kernel) rfl), (tw_of 358 (by decide +kernel) rfl), (tw_of 7 (by decide +kernel) rfl), (tw_of 73 (by decide +kernel) rfl), rfl, by decide, by decide, by decide +kernel⟩
theorem mt_X6_report : MtV yX6_report 6 cX6_report 1 (some .int) 0 := ⟨(tw_of 320 (by decide +kernel) rfl), (tw_of 318 (by decide +kernel) rfl), (tw_of 319 (by decide +kernel) rfl), (tw_of 73 (by decide +kernel) rfl), rfl, by decide, by decide, by decide +kernel⟩
theorem mt_X3_has : MtV yX3_has 3 cX3_has 2 (some .boolean) 1 := ⟨(tw_of 431 (by decide +kernel) rfl), (tw_of 429 (by decide +kernel) rfl), (tw_of 430 (by decide +kernel) rfl), (tw_of 75 (by decide +kernel) rfl), rfl, by decide, by decide, by decide +kernel⟩
theorem mt_X3_remove : MtV yX3_remove 3 cX3_remove 3 none 1 := ⟨(tw_of 436 (by decide +kernel) rfl), (tw_of 434 (by decide +kernel) rfl), (tw_of 435 (by decide +kernel) rfl), (tw_of 75 (by decide +kernel) rfl), rfl, by decide, by decide, by decide +kernel⟩
theorem mt_X6_drop : MtV yX6_drop 6 cX6_drop 2 (some .int) 1 := ⟨(tw_of 427 (by decide +kernel) rfl), (tw_of 425 (by decide +kernel) rfl), (tw_of 426 (by decide +kernel) rfl), (tw_of 73 (by decide +kernel) rfl), rfl, by decide, by decide, by decide +kernel⟩
theorem mt_X6_error : MtV yX6_error 6 cX6_error 4 (some .int) 2 := ⟨(tw_of 441 (by decide +kernel) rfl), (tw_of 439 (by decide +kernel) rfl), (tw_of 440 (by decide +kernel) rfl), (tw_of 73 (by decide +kernel) rfl), rfl, by decide, by decide, by decide +kernel⟩
theorem mt_X6_speed : MtV yX6_speed 6 cX6_speed 3 (some .int) 1 := ⟨(tw_of 446 (by decide +kernel) rfl), (tw_of 444 (by decide +kernel) rfl), (tw_of 445 (by decide +kernel) rfl), (tw_of 73 (by decide +kernel) rfl), rfl, by decide, by decide, by decide +kernel⟩
theorem mt_X6_chordFact : MtV yX6_chordFact 6 cX6_chordFact 3 (some .int) 2 := ⟨(tw_of 455 (by decide +kernel) rfl), (tw_of 454 (by decide +kernel) rfl), (tw_of 16 (by decide +kernel) rfl), (tw_of 73 (by decide +kernel) rfl), rfl, by decide, by decide, by decide +kernel⟩
theorem mt_X6_station : MtV yX6_station 6 cX6_station 3 (some .int) 2 := ⟨(tw_of 450 (by decide +kernel) rfl), (tw_of 448 (by decide +kernel) rfl), (tw_of 449 (by decide +kernel) rfl), (tw_of 73 (by decide +kernel) rfl), rfl, by decide, by decide, by decide +kernel⟩
theorem mt_X6_isHeight : MtS yX6_isHeight cX6_isHeight 1 (some .boolean) 1 := ⟨(tw_of 464 (by decide +kernel) rfl), (tw_of 463 (by decide +kernel) rfl), (tw_of 73 (by decide +kernel) rfl), by decide, by decide, by decide +kernel⟩
theorem mt_X6_at : MtV yX6_at 6 cX6_at 3 (some .int) 1 := ⟨(tw_of 461 (by decide +kernel) rfl), (tw_of 459 (by decide +kernel) rfl), (tw_of 460 (by decide +kernel) rfl), (tw_of 73 (by decide +kernel) rfl), rfl, by decide, by decide, by decide +kernel⟩
theorem mt_X6_allFit : MtV yX6_allFit 6 cX6_allFit 1 (some .boolean) 0 := ⟨(tw_of 472 (by decide +kernel) rfl), (tw_of 471 (by decide +kernel) rfl), (tw_of 17 (by decide +kernel) rfl), (tw_of 73 (by decide +kernel) rfl), rfl, by decide, by decide, by decide +kernel⟩
theorem mt_X6_fits : MtV yX6_fits 6 cX6_fits 1 (some .int) 0 := ⟨(tw_of 468 (by decide +kernel) rfl), (tw_of 466 (by decide +kernel) rfl), (tw_of 467 (by decide +kernel) rfl), (tw_of 73 (by decide +kernel) rfl), rfl, by decide, by decide, by decide +kernel⟩
theorem mt_X6_wrong : MtV yX6_wrong 6 cX6_wrong 1 (some .int) 0 := ⟨(tw_of 476 (by decide +kernel) rfl), (tw_of 474 (by decide +kernel) rfl), (tw_of 475 (by decide +kernel) rfl), (tw_of 73 (by decide +kernel) rfl), rfl, by decide, by decide, by decide +kernel⟩
theorem mt_X1_after : MtV yX1_after 1 cX1_after 2 (some .int) 1 := ⟨(tw_of 488 (by decide +kernel) rfl), (tw_of 487 (by decide +kernel) rfl), (tw_of 18 (by decide +kernel) rfl), (tw_of 77 (by decide +kernel) rfl), rfl, by decide, by decide, by decide +kernel⟩
theorem mt_X1_doubleArea : MtV yX1_doubleArea 1 cX1_doubleArea 4 (some .int) 0 := ⟨(tw_of 484 (by decide +kernel) rfl), (tw_of 482 (by decide +kernel) rfl), (tw_of 483 (by decide +kernel) rfl), (tw_of 77 (by decide +kernel) rfl), rfl, by decide, by decide, by decide +kernel⟩
theorem mt_J9_max_7cf53 : MtS yJ9_max_7cf53 cJ9_max_7cf53 2 (some .int) 2 := ⟨(tw_of 495 (by decide +kernel) rfl), (tw_of 494 (by decide +kernel) rfl), (tw_of 81 (by decide +kernel) rfl), by decide, by decide, by decide +kernel⟩
theorem mt_X1_longestSquare : MtV yX1_longestSquare 1 cX1_longestSquare 4 (some .int) 0 := ⟨(tw_of 492 (by decide +kernel) rfl), (tw_of 490 (by decide +kernel) rfl), (tw_of 491 (by decide +kernel) rfl), (tw_of 77 (by decide +kernel) rfl), rfl, by decide, by decide, by decide +kernel⟩
theorem mt_J9_max_f86c9 : MtS yJ9_max_f86c9 cJ9_max_f86c9 4 (some .long) 2 := ⟨(tw_of 506 (by decide +kernel) rfl), (tw_of 505 (by decide +kernel) rfl), (tw_of 81 (by decide +kernel) rfl), by decide, by decide, by decide +kernel⟩
theorem mt_X1_widthSquare : MtV yX1_widthSquare 1 cX1_widthSquare 8 (some .long) 1 := ⟨(tw_of 503 (by decide +kernel) rfl), (tw_of 502 (by decide +kernel) rfl), (tw_of 19 (by decide +kernel) rfl), (tw_of 77 (by decide +kernel) rfl), rfl, by decide, by decide, by decide +kernel⟩
theorem mt_J9_min_f86c9 : MtS yJ9_min_f86c9 cJ9_min_f86c9 4 (some .long) 2 := ⟨(tw_of 509 (by decide +kernel) rfl), (tw_of 508 (by decide +kernel) rfl), (tw_of 81 (by decide +kernel) rfl), by decide, by decide, by decide +kernel⟩
theorem mt_X1_leastWidthSquare : MtV yX1_leastWidthSquare 1 cX1_leastWidthSquare 4 (some .int) 0 := ⟨(tw_of 499 (by decide +kernel) rfl), (tw_of 497 (by decide +kernel) rfl), (tw_of 498 (by decide +kernel) rfl), (tw_of 77 (by decide +kernel) rfl), rfl, by decide, by decide, by decide +kernel⟩
theorem mt_X6_kernel : MtV yX6_kernel 6 cX6_kernel 2 (some .int) 1 := ⟨(tw_of 480 (by decide +kernel) rfl), (tw_of 478 (by decide +kernel) rfl), (tw_of 479 (by decide +kernel) rfl), (tw_of 73 (by decide +kernel) rfl), rfl, by decide, by decide, by decide +kernel⟩
theorem mt_X6_isBit : MtS yX6_isBit cX6_isBit 1 (some .boolean) 1 := ⟨(tw_of 516 (by decide +kernel) rfl), (tw_of 515 (by decide +kernel) rfl), (tw_of 73 (by decide +kernel) rfl), by decide, by decide, by decide +kernel⟩
theorem mt_X6_corner : MtV yX6_corner 6 cX6_corner 3 (some .int) 2 := ⟨(tw_of 513 (by decide +kernel) rfl), (tw_of 511 (by decide +kernel) rfl), (tw_of 512 (by decide +kernel) rfl), (tw_of 73 (by decide +kernel) rfl), rfl, by decide, by decide, by decide +kernel⟩
theorem mt_X0_release : MtV yX0_release 0 cX0_release 1 none 0 := ⟨(tw_of 531 (by decide +kernel) rfl), (tw_of 529 (by decide +kernel) rfl), (tw_of 530 (by decide +kernel) rfl), (tw_of 79 (by decide +kernel) rfl), rfl, by decide, by decide, by decide +kernel⟩
theorem mt_X0_put : MtV yX0_put 0 cX0_put 5 none 2 := ⟨(tw_of 540 (by decide +kernel) rfl), (tw_of 539 (by decide +kernel) rfl), (tw_of 20 (by decide +kernel) rfl), (tw_of 79 (by decide +kernel) rfl), rfl, by decide, by decide, by decide +kernel⟩
theorem mt_X0_lower : MtV yX0_lower 0 cX0_lower 5 none 2 := ⟨(tw_of 536 (by decide +kernel) rfl), (tw_of 534 (by decide +kernel) rfl), (tw_of 535 (by decide +kernel) rfl), (tw_of 79 (by decide +kernel) rfl), rfl, by decide, by decide, by decide +kernel⟩
theorem mt_X4_hold : MtS yX4_hold cX4_hold 8 none 4 := ⟨(tw_of 527 (by decide +kernel) rfl), (tw_of 526 (by decide +kernel) rfl), (tw_of 78 (by decide +kernel) rfl), by decide, by decide, by decide +kernel⟩
theorem mt_X4_measureHeld : MtV yX4_measureHeld 4 cX4_measureHeld 3 none 2 := ⟨(tw_of 524 (by decide +kernel) rfl), (tw_of 522 (by decide +kernel) rfl), (tw_of 523 (by decide +kernel) rfl), (tw_of 78 (by decide +kernel) rfl), rfl, by decide, by decide, by decide +kernel⟩
theorem mt_J9_abs_067f4 : MtS yJ9_abs_067f4 cJ9_abs_067f4 2 (some .long) 1 := ⟨(tw_of 557 (by decide +kernel) rfl), (tw_of 556 (by decide +kernel) rfl), (tw_of 81 (by decide +kernel) rfl), by decide, by decide, by decide +kernel⟩
theorem mt_X0_divisor : MtV yX0_divisor 0 cX0_divisor 8 (some .long) 0 := ⟨(tw_of 554 (by decide +kernel) rfl), (tw_of 553 (by decide +kernel) rfl), (tw_of 21 (by decide +kernel) rfl), (tw_of 79 (by decide +kernel) rfl), rfl, by decide, by decide, by decide +kernel⟩
theorem mt_X0_lowestTop : MtV yX0_lowestTop 0 cX0_lowestTop 1 (some .int) 0 := ⟨(tw_of 561 (by decide +kernel) rfl), (tw_of 559 (by decide +kernel) rfl), (tw_of 560 (by decide +kernel) rfl), (tw_of 79 (by decide +kernel) rfl), rfl, by decide, by decide, by decide +kernel⟩
theorem mt_X0_lowestBottom : MtV yX0_lowestBottom 0 cX0_lowestBottom 1 (some .int) 0 := ⟨(tw_of 550 (by decide +kernel) rfl), (tw_of 548 (by decide +kernel) rfl), (tw_of 549 (by decide +kernel) rfl), (tw_of 79 (by decide +kernel) rfl), rfl, by decide, by decide, by decide +kernel⟩
theorem mt_X4_tell : MtV yX4_tell 4 cX4_tell 4 (some .int) 2 := ⟨(tw_of 544 (by decide +kernel) rfl), (tw_of 542 (by decide +kernel) rfl), (tw_of 543 (by decide +kernel) rfl), (tw_of 78 (by decide +kernel) rfl), rfl, by decide, by decide, by decide +kernel⟩
theorem mt_X6_holds : MtV yX6_holds 6 cX6_holds 4 (some .int) 3 := ⟨(tw_of 520 (by decide +kernel) rfl), (tw_of 518 (by decide +kernel) rfl), (tw_of 519 (by decide +kernel) rfl), (tw_of 73 (by decide +kernel) rfl), rfl, by decide, by decide, by decide +kernel⟩
theorem mt_X3_missCount : MtV yX3_missCount 3 cX3_missCount 3 (some .int) 0 := ⟨(tw_of 573 (by decide +kernel) rfl), (tw_of 571 (by decide +kernel) rfl), (tw_of 572 (by decide +kernel) rfl), (tw_of 75 (by decide +kernel) rfl), rfl, by decide, by decide, by decide +kernel⟩
theorem mt_X3_hasChord : MtV yX3_hasChord 3 cX3_hasChord 1 (some .boolean) 0 := ⟨(tw_of 569 (by decide +kernel) rfl), (tw_of 567 (by decide +kernel) rfl), (tw_of 568 (by decide +kernel) rfl), (tw_of 75 (by decide +kernel) rfl), rfl, by decide, by decide, by decide +kernel⟩
theorem mt_X4_isBetween : MtS yX4_isBetween cX4_isBetween 3 (some .boolean) 3 := ⟨(tw_of 588 (by decide +kernel) rfl), (tw_of 587 (by decide +kernel) rfl), (tw_of 78 (by decide +kernel) rfl), by decide, by decide, by decide +kernel⟩
theorem mt_X0_raise : MtV yX0_raise 0 cX0_raise 5 none 2 := ⟨(tw_of 585 (by decide +kernel) rfl), (tw_of 583 (by decide +kernel) rfl), (tw_of 584 (by decide +kernel) rfl), (tw_of 79 (by decide +kernel) rfl), rfl, by decide, by decide, by decide +kernel⟩
theorem mt_X4_bind : MtS yX4_bind cX4_bind 9 none 4 := ⟨(tw_of 580 (by decide +kernel) rfl), (tw_of 579 (by decide +kernel) rfl), (tw_of 78 (by decide +kernel) rfl), by decide, by decide, by decide +kernel⟩
theorem mt_X4_isBarred : MtS yX4_isBarred cX4_isBarred 5 (some .boolean) 2 := ⟨(tw_of 592 (by decide +kernel) rfl), (tw_of 591 (by decide +kernel) rfl), (tw_of 78 (by decide +kernel) rfl), by decide, by decide, by decide +kernel⟩
theorem mt_X4_isBoundless : MtV yX4_isBoundless 4 cX4_isBoundless 1 (some .boolean) 0 := ⟨(tw_of 596 (by decide +kernel) rfl), (tw_of 595 (by decide +kernel) rfl), (tw_of 22 (by decide +kernel) rfl), (tw_of 78 (by decide +kernel) rfl), rfl, by decide, by decide, by decide +kernel⟩
theorem mt_X4_lengthTop : MtV yX4_lengthTop 4 cX4_lengthTop 1 (some .long) 0 := ⟨(tw_of 600 (by decide +kernel) rfl), (tw_of 599 (by decide +kernel) rfl), (tw_of 23 (by decide +kernel) rfl), (tw_of 78 (by decide +kernel) rfl), rfl, by decide, by decide, by decide +kernel⟩
theorem mt_X4_measureReached : MtV yX4_measureReached 4 cX4_measureReached 3 none 2 := ⟨(tw_of 577 (by decide +kernel) rfl), (tw_of 575 (by decide +kernel) rfl), (tw_of 576 (by decide +kernel) rfl), (tw_of 78 (by decide +kernel) rfl), rfl, by decide, by decide, by decide +kernel⟩
theorem mt_X6_reach : MtV yX6_reach 6 cX6_reach 4 (some .int) 3 := ⟨(tw_of 565 (by decide +kernel) rfl), (tw_of 563 (by decide +kernel) rfl), (tw_of 564 (by decide +kernel) rfl), (tw_of 73 (by decide +kernel) rfl), rfl, by decide, by decide, by decide +kernel⟩
theorem mt_X4_lengthBottom : MtV yX4_lengthBottom 4 cX4_lengthBottom 1 (some .long) 0 := ⟨(tw_of 612 (by decide +kernel) rfl), (tw_of 611 (by decide +kernel) rfl), (tw_of 24 (by decide +kernel) rfl), (tw_of 78 (by decide +kernel) rfl), rfl, by decide, by decide, by decide +kernel⟩
theorem mt_J9_floorDiv_f86c9 : MtS yJ9_floorDiv_f86c9 cJ9_floorDiv_f86c9 6 (some .long) 2 := ⟨(tw_of 615 (by decide +kernel) rfl), (tw_of 614 (by decide +kernel) rfl), (tw_of 81 (by decide +kernel) rfl), by decide, by decide, by decide +kernel⟩
theorem mt_X4_ticksUp : MtV yX4_ticksUp 4 cX4_ticksUp 4 (some .int) 1 := ⟨(tw_of 619 (by decide +kernel) rfl), (tw_of 617 (by decide +kernel) rfl), (tw_of 618 (by decide +kernel) rfl), (tw_of 78 (by decide +kernel) rfl), rfl, by decide, by decide, by decide +kernel⟩
theorem mt_X4_ticksDown : MtV yX4_ticksDown 4 cX4_ticksDown 4 (some .int) 1 := ⟨(tw_of 608 (by decide +kernel) rfl), (tw_of 606 (by decide +kernel) rfl), (tw_of 607 (by decide +kernel) rfl), (tw_of 78 (by decide +kernel) rfl), rfl, by decide, by decide, by decide +kernel⟩
theorem mt_X6_lasts : MtV yX6_lasts 6 cX6_lasts 3 (some .int) 2 := ⟨(tw_of 604 (by decide +kernel) rfl), (tw_of 602 (by decide +kernel) rfl), (tw_of 603 (by decide +kernel) rfl), (tw_of 73 (by decide +kernel) rfl), rfl, by decide, by decide, by decide +kernel⟩
theorem mt_X6_count : MtV yX6_count 6 cX6_count 2 (some .int) 1 := ⟨(tw_of 623 (by decide +kernel) rfl), (tw_of 621 (by decide +kernel) rfl), (tw_of 622 (by decide +kernel) rfl), (tw_of 73 (by decide +kernel) rfl), rfl, by decide, by decide, by decide +kernel⟩
theorem mt_X6_mixKernel : MtV yX6_mixKernel 6 cX6_mixKernel 6 (some .long) 1 := ⟨(tw_of 637 (by decide +kernel) rfl), (tw_of 636 (by decide +kernel) rfl), (tw_of 25 (by decide +kernel) rfl), (tw_of 73 (by decide +kernel) rfl), rfl, by decide, by decide, by decide +kernel⟩
theorem mt_X6_mixReach : MtV yX6_mixReach 6 cX6_mixReach 7 (some .long) 1 := ⟨(tw_of 643 (by decide +kernel) rfl), (tw_of 642 (by decide +kernel) rfl), (tw_of 26 (by decide +kernel) rfl), (tw_of 73 (by decide +kernel) rfl), rfl, by decide, by decide, by decide +kernel⟩
theorem mt_X6_digest : MtV yX6_digest 6 cX6_digest 5 (some .long) 0 := ⟨(tw_of 628 (by decide +kernel) rfl), (tw_of 626 (by decide +kernel) rfl), (tw_of 627 (by decide +kernel) rfl), (tw_of 73 (by decide +kernel) rfl), rfl, by decide, by decide, by decide +kernel⟩
theorem mt_X7_within : MtS yX7_within cX7_within 6 (some .boolean) 3 := ⟨(tw_of 737 (by decide +kernel) rfl), (tw_of 736 (by decide +kernel) rfl), (tw_of 80 (by decide +kernel) rfl), by decide, by decide, by decide +kernel⟩
theorem mt_X7_letter : MtV yX7_letter 7 cX7_letter 2 (some .int) 1 := ⟨(tw_of 732 (by decide +kernel) rfl), (tw_of 730 (by decide +kernel) rfl), (tw_of 731 (by decide +kernel) rfl), (tw_of 80 (by decide +kernel) rfl), rfl, by decide, by decide, by decide +kernel⟩
theorem mt_X7_blank : MtV yX7_blank 7 cX7_blank 2 (some .int) 0 := ⟨(tw_of 743 (by decide +kernel) rfl), (tw_of 741 (by decide +kernel) rfl), (tw_of 742 (by decide +kernel) rfl), (tw_of 80 (by decide +kernel) rfl), rfl, by decide, by decide, by decide +kernel⟩
theorem mt_X7_goesTo : MtV yX7_goesTo 7 cX7_goesTo 2 (some .boolean) 1 := ⟨(tw_of 769 (by decide +kernel) rfl), (tw_of 768 (by decide +kernel) rfl), (tw_of 31 (by decide +kernel) rfl), (tw_of 80 (by decide +kernel) rfl), rfl, by decide, by decide, by decide +kernel⟩
theorem mt_X7_mostOf : MtV yX7_mostOf 7 cX7_mostOf 1 (some .int) 0 := ⟨(tw_of 765 (by decide +kernel) rfl), (tw_of 764 (by decide +kernel) rfl), (tw_of 30 (by decide +kernel) rfl), (tw_of 80 (by decide +kernel) rfl), rfl, by decide, by decide, by decide +kernel⟩
theorem mt_X7_takesFigure : MtV yX7_takesFigure 7 cX7_takesFigure 4 (some .boolean) 1 := ⟨(tw_of 761 (by decide +kernel) rfl), (tw_of 760 (by decide +kernel) rfl), (tw_of 29 (by decide +kernel) rfl), (tw_of 80 (by decide +kernel) rfl), rfl, by decide, by decide, by decide +kernel⟩
theorem mt_X7_takes : MtV yX7_takes 7 cX7_takes 3 (some .boolean) 1 := ⟨(tw_of 755 (by decide +kernel) rfl), (tw_of 754 (by decide +kernel) rfl), (tw_of 28 (by decide +kernel) rfl), (tw_of 80 (by decide +kernel) rfl), rfl, by decide, by decide, by decide +kernel⟩
theorem mt_X7_goAlong : MtV yX7_goAlong 7 cX7_goAlong 2 (some .int) 0 := ⟨(tw_of 751 (by decide +kernel) rfl), (tw_of 750 (by decide +kernel) rfl), (tw_of 27 (by decide +kernel) rfl), (tw_of 80 (by decide +kernel) rfl), rfl, by decide, by decide, by decide +kernel⟩
theorem mt_X7_fault : MtV yX7_fault 7 cX7_fault 1 (some .int) 0 := ⟨(tw_of 747 (by decide +kernel) rfl), (tw_of 745 (by decide +kernel) rfl), (tw_of 746 (by decide +kernel) rfl), (tw_of 80 (by decide +kernel) rfl), rfl, by decide, by decide, by decide +kernel⟩
theorem mt_X7_findStation : MtV yX7_findStation 7 cX7_findStation 4 (some .int) 1 := ⟨(tw_of 781 (by decide +kernel) rfl), (tw_of 780 (by decide +kernel) rfl), (tw_of 33 (by decide +kernel) rfl), (tw_of 80 (by decide +kernel) rfl), rfl, by decide, by decide, by decide +kernel⟩
theorem mt_X7_isReport : MtV yX7_isReport 7 cX7_isReport 2 (some .boolean) 0 := ⟨(tw_of 777 (by decide +kernel) rfl), (tw_of 776 (by decide +kernel) rfl), (tw_of 32 (by decide +kernel) rfl), (tw_of 80 (by decide +kernel) rfl), rfl, by decide, by decide, by decide +kernel⟩
theorem mt_X7_report : MtV yX7_report 7 cX7_report 1 (some .int) 0 := ⟨(tw_of 773 (by decide +kernel) rfl), (tw_of 771 (by decide +kernel) rfl), (tw_of 772 (by decide +kernel) rfl), (tw_of 80 (by decide +kernel) rfl), rfl, by decide, by decide, by decide +kernel⟩
theorem mt_X7_isStation : MtV yX7_isStation 7 cX7_isStation 2 (some .boolean) 1 := ⟨(tw_of 791 (by decide +kernel) rfl), (tw_of 790 (by decide +kernel) rfl), (tw_of 34 (by decide +kernel) rfl), (tw_of 80 (by decide +kernel) rfl), rfl, by decide, by decide, by decide +kernel⟩
theorem mt_X7_drop : MtV yX7_drop 7 cX7_drop 3 (some .int) 1 := ⟨(tw_of 787 (by decide +kernel) rfl), (tw_of 785 (by decide +kernel) rfl), (tw_of 786 (by decide +kernel) rfl), (tw_of 80 (by decide +kernel) rfl), rfl, by decide, by decide, by decide +kernel⟩
theorem mt_X7_error : MtV yX7_error 7 cX7_error 4 (some .int) 2 := ⟨(tw_of 796 (by decide +kernel) rfl), (tw_of 794 (by decide +kernel) rfl), (tw_of 795 (by decide +kernel) rfl), (tw_of 80 (by decide +kernel) rfl), rfl, by decide, by decide, by decide +kernel⟩
theorem mt_X7_speed : MtV yX7_speed 7 cX7_speed 3 (some .int) 1 := ⟨(tw_of 801 (by decide +kernel) rfl), (tw_of 799 (by decide +kernel) rfl), (tw_of 800 (by decide +kernel) rfl), (tw_of 80 (by decide +kernel) rfl), rfl, by decide, by decide, by decide +kernel⟩
theorem mt_X7_bound : MtV yX7_bound 7 cX7_bound 4 (some .int) 2 := ⟨(tw_of 814 (by decide +kernel) rfl), (tw_of 813 (by decide +kernel) rfl), (tw_of 36 (by decide +kernel) rfl), (tw_of 80 (by decide +kernel) rfl), rfl, by decide, by decide, by decide +kernel⟩
theorem mt_X7_stationNow : MtV yX7_stationNow 7 cX7_stationNow 3 (some .int) 2 := ⟨(tw_of 810 (by decide +kernel) rfl), (tw_of 809 (by decide +kernel) rfl), (tw_of 35 (by decide +kernel) rfl), (tw_of 80 (by decide +kernel) rfl), rfl, by decide, by decide, by decide +kernel⟩
theorem mt_X7_station : MtV yX7_station 7 cX7_station 3 (some .int) 2 := ⟨(tw_of 805 (by decide +kernel) rfl), (tw_of 803 (by decide +kernel) rfl), (tw_of 804 (by decide +kernel) rfl), (tw_of 80 (by decide +kernel) rfl), rfl, by decide, by decide, by decide +kernel⟩
theorem mt_X7_at : MtV yX7_at 7 cX7_at 2 (some .int) 1 := ⟨(tw_of 818 (by decide +kernel) rfl), (tw_of 816 (by decide +kernel) rfl), (tw_of 817 (by decide +kernel) rfl), (tw_of 80 (by decide +kernel) rfl), rfl, by decide, by decide, by decide +kernel⟩
theorem mt_X7_all : MtV yX7_all 7 cX7_all 1 (some .int) 0 := ⟨(tw_of 832 (by decide +kernel) rfl), (tw_of 831 (by decide +kernel) rfl), (tw_of 38 (by decide +kernel) rfl), (tw_of 80 (by decide +kernel) rfl), rfl, by decide, by decide, by decide +kernel⟩
theorem mt_X7_has : MtS yX7_has cX7_has 2 (some .boolean) 2 := ⟨(tw_of 843 (by decide +kernel) rfl), (tw_of 842 (by decide +kernel) rfl), (tw_of 80 (by decide +kernel) rfl), by decide, by decide, by decide +kernel⟩
theorem mt_X7_isHit : MtV yX7_isHit 7 cX7_isHit 3 (some .boolean) 2 := ⟨(tw_of 840 (by decide +kernel) rfl), (tw_of 839 (by decide +kernel) rfl), (tw_of 40 (by decide +kernel) rfl), (tw_of 80 (by decide +kernel) rfl), rfl, by decide, by decide, by decide +kernel⟩
theorem mt_X7_isBetween : MtS yX7_isBetween cX7_isBetween 3 (some .boolean) 3 := ⟨(tw_of 846 (by decide +kernel) rfl), (tw_of 845 (by decide +kernel) rfl), (tw_of 80 (by decide +kernel) rfl), by decide, by decide, by decide +kernel⟩
theorem mt_X7_letsBoth : MtV yX7_letsBoth 7 cX7_letsBoth 12 (some .boolean) 3 := ⟨(tw_of 850 (by decide +kernel) rfl), (tw_of 849 (by decide +kernel) rfl), (tw_of 41 (by decide +kernel) rfl), (tw_of 80 (by decide +kernel) rfl), rfl, by decide, by decide, by decide +kernel⟩
theorem mt_X7_fitsFor : MtV yX7_fitsFor 7 cX7_fitsFor 6 (some .boolean) 1 := ⟨(tw_of 836 (by decide +kernel) rfl), (tw_of 835 (by decide +kernel) rfl), (tw_of 39 (by decide +kernel) rfl), (tw_of 80 (by decide +kernel) rfl), rfl, by decide, by decide, by decide +kernel⟩
theorem mt_X7_fit : MtV yX7_fit 7 cX7_fit 1 (some .boolean) 0 := ⟨(tw_of 828 (by decide +kernel) rfl), (tw_of 827 (by decide +kernel) rfl), (tw_of 37 (by decide +kernel) rfl), (tw_of 80 (by decide +kernel) rfl), rfl, by decide, by decide, by decide +kernel⟩
theorem mt_X7_fits : MtV yX7_fits 7 cX7_fits 1 (some .int) 0 := ⟨(tw_of 824 (by decide +kernel) rfl), (tw_of 822 (by decide +kernel) rfl), (tw_of 823 (by decide +kernel) rfl), (tw_of 80 (by decide +kernel) rfl), rfl, by decide, by decide, by decide +kernel⟩
theorem mt_X7_many : MtS yX7_many cX7_many 3 (some .int) 1 := ⟨(tw_of 861 (by decide +kernel) rfl), (tw_of 860 (by decide +kernel) rfl), (tw_of 80 (by decide +kernel) rfl), by decide, by decide, by decide +kernel⟩
theorem mt_X7_wrongNow : MtV yX7_wrongNow 7 cX7_wrongNow 4 (some .int) 0 := ⟨(tw_of 858 (by decide +kernel) rfl), (tw_of 857 (by decide +kernel) rfl), (tw_of 42 (by decide +kernel) rfl), (tw_of 80 (by decide +kernel) rfl), rfl, by decide, by decide, by decide +kernel⟩
theorem mt_X7_wrong : MtV yX7_wrong 7 cX7_wrong 1 (some .int) 0 := ⟨(tw_of 854 (by decide +kernel) rfl), (tw_of 852 (by decide +kernel) rfl), (tw_of 853 (by decide +kernel) rfl), (tw_of 80 (by decide +kernel) rfl), rfl, by decide, by decide, by decide +kernel⟩
theorem mt_X7_layPoints : MtV yX7_layPoints 7 cX7_layPoints 3 none 0 := ⟨(tw_of 878 (by decide +kernel) rfl), (tw_of 877 (by decide +kernel) rfl), (tw_of 45 (by decide +kernel) rfl), (tw_of 80 (by decide +kernel) rfl), rfl, by decide, by decide, by decide +kernel⟩
theorem mt_X7_turn : MtV yX7_turn 7 cX7_turn 4 (some .long) 3 := ⟨(tw_of 886 (by decide +kernel) rfl), (tw_of 885 (by decide +kernel) rfl), (tw_of 47 (by decide +kernel) rfl), (tw_of 80 (by decide +kernel) rfl), rfl, by decide, by decide, by decide +kernel⟩
theorem mt_X7_square : MtV yX7_square 7 cX7_square 3 (some .long) 2 := ⟨(tw_of 890 (by decide +kernel) rfl), (tw_of 889 (by decide +kernel) rfl), (tw_of 48 (by decide +kernel) rfl), (tw_of 80 (by decide +kernel) rfl), rfl, by decide, by decide, by decide +kernel⟩
theorem mt_X7_nextCorner : MtV yX7_nextCorner 7 cX7_nextCorner 7 (some .int) 1 := ⟨(tw_of 882 (by decide +kernel) rfl), (tw_of 881 (by decide +kernel) rfl), (tw_of 46 (by decide +kernel) rfl), (tw_of 80 (by decide +kernel) rfl), rfl, by decide, by decide, by decide +kernel⟩
theorem mt_X7_layCorners : MtV yX7_layCorners 7 cX7_layCorners 3 none 0 := ⟨(tw_of 874 (by decide +kernel) rfl), (tw_of 873 (by decide +kernel) rfl), (tw_of 44 (by decide +kernel) rfl), (tw_of 80 (by decide +kernel) rfl), rfl, by decide, by decide, by decide +kernel⟩
theorem mt_X7_widthOn : MtV yX7_widthOn 7 cX7_widthOn 9 (some .long) 1 := ⟨(tw_of 906 (by decide +kernel) rfl), (tw_of 905 (by decide +kernel) rfl), (tw_of 52 (by decide +kernel) rfl), (tw_of 80 (by decide +kernel) rfl), rfl, by decide, by decide, by decide +kernel⟩
theorem mt_X7_wide : MtV yX7_wide 7 cX7_wide 4 (some .long) 0 := ⟨(tw_of 902 (by decide +kernel) rfl), (tw_of 901 (by decide +kernel) rfl), (tw_of 51 (by decide +kernel) rfl), (tw_of 80 (by decide +kernel) rfl), rfl, by decide, by decide, by decide +kernel⟩
theorem mt_X7_longest : MtV yX7_longest 7 cX7_longest 7 (some .long) 0 := ⟨(tw_of 898 (by decide +kernel) rfl), (tw_of 897 (by decide +kernel) rfl), (tw_of 50 (by decide +kernel) rfl), (tw_of 80 (by decide +kernel) rfl), rfl, by decide, by decide, by decide +kernel⟩
theorem mt_X7_area : MtV yX7_area 7 cX7_area 4 (some .long) 0 := ⟨(tw_of 894 (by decide +kernel) rfl), (tw_of 893 (by decide +kernel) rfl), (tw_of 49 (by decide +kernel) rfl), (tw_of 80 (by decide +kernel) rfl), rfl, by decide, by decide, by decide +kernel⟩
theorem mt_X7_kernelNow : MtV yX7_kernelNow 7 cX7_kernelNow 2 (some .int) 1 := ⟨(tw_of 870 (by decide +kernel) rfl), (tw_of 869 (by decide +kernel) rfl), (tw_of 43 (by decide +kernel) rfl), (tw_of 80 (by decide +kernel) rfl), rfl, by decide, by decide, by decide +kernel⟩
theorem mt_X7_kernel : MtV yX7_kernel 7 cX7_kernel 2 (some .int) 1 := ⟨(tw_of 865 (by decide +kernel) rfl), (tw_of 863 (by decide +kernel) rfl), (tw_of 864 (by decide +kernel) rfl), (tw_of 80 (by decide +kernel) rfl), rfl, by decide, by decide, by decide +kernel⟩
theorem mt_X7_cornerNow : MtV yX7_cornerNow 7 cX7_cornerNow 3 (some .int) 2 := ⟨(tw_of 914 (by decide +kernel) rfl), (tw_of 913 (by decide +kernel) rfl), (tw_of 53 (by decide +kernel) rfl), (tw_of 80 (by decide +kernel) rfl), rfl, by decide, by decide, by decide +kernel⟩
theorem mt_X7_corner : MtV yX7_corner 7 cX7_corner 3 (some .int) 2 := ⟨(tw_of 910 (by decide +kernel) rfl), (tw_of 908 (by decide +kernel) rfl), (tw_of 909 (by decide +kernel) rfl), (tw_of 80 (by decide +kernel) rfl), rfl, by decide, by decide, by decide +kernel⟩
theorem mt_X7_isAsk : MtS yX7_isAsk cX7_isAsk 3 (some .boolean) 3 := ⟨(tw_of 921 (by decide +kernel) rfl), (tw_of 920 (by decide +kernel) rfl), (tw_of 80 (by decide +kernel) rfl), by decide, by decide, by decide +kernel⟩
theorem mt_X7_begins : MtV yX7_begins 7 cX7_begins 1 none 0 := ⟨(tw_of 933 (by decide +kernel) rfl), (tw_of 932 (by decide +kernel) rfl), (tw_of 56 (by decide +kernel) rfl), (tw_of 80 (by decide +kernel) rfl), rfl, by decide, by decide, by decide +kernel⟩
theorem mt_X7_look : MtV yX7_look 7 cX7_look 12 none 3 := ⟨(tw_of 937 (by decide +kernel) rfl), (tw_of 936 (by decide +kernel) rfl), (tw_of 57 (by decide +kernel) rfl), (tw_of 80 (by decide +kernel) rfl), rfl, by decide, by decide, by decide +kernel⟩
theorem mt_X7_layHeld : MtV yX7_layHeld 7 cX7_layHeld 9 none 2 := ⟨(tw_of 929 (by decide +kernel) rfl), (tw_of 928 (by decide +kernel) rfl), (tw_of 55 (by decide +kernel) rfl), (tw_of 80 (by decide +kernel) rfl), rfl, by decide, by decide, by decide +kernel⟩
theorem mt_X7_common : MtS yX7_common cX7_common 10 (some .long) 2 := ⟨(tw_of 944 (by decide +kernel) rfl), (tw_of 943 (by decide +kernel) rfl), (tw_of 80 (by decide +kernel) rfl), by decide, by decide, by decide +kernel⟩
theorem mt_X7_told : MtV yX7_told 7 cX7_told 4 (some .int) 1 := ⟨(tw_of 941 (by decide +kernel) rfl), (tw_of 940 (by decide +kernel) rfl), (tw_of 58 (by decide +kernel) rfl), (tw_of 80 (by decide +kernel) rfl), rfl, by decide, by decide, by decide +kernel⟩
theorem mt_X7_heldNow : MtV yX7_heldNow 7 cX7_heldNow 4 (some .int) 3 := ⟨(tw_of 925 (by decide +kernel) rfl), (tw_of 924 (by decide +kernel) rfl), (tw_of 54 (by decide +kernel) rfl), (tw_of 80 (by decide +kernel) rfl), rfl, by decide, by decide, by decide +kernel⟩
theorem mt_X7_holds : MtV yX7_holds 7 cX7_holds 4 (some .int) 3 := ⟨(tw_of 918 (by decide +kernel) rfl), (tw_of 916 (by decide +kernel) rfl), (tw_of 917 (by decide +kernel) rfl), (tw_of 80 (by decide +kernel) rfl), rfl, by decide, by decide, by decide +kernel⟩
theorem mt_X7_hits : MtV yX7_hits 7 cX7_hits 3 (some .int) 0 := ⟨(tw_of 957 (by decide +kernel) rfl), (tw_of 956 (by decide +kernel) rfl), (tw_of 60 (by decide +kernel) rfl), (tw_of 80 (by decide +kernel) rfl), rfl, by decide, by decide, by decide +kernel⟩
theorem mt_X7_canReach : MtV yX7_canReach 7 cX7_canReach 1 (some .boolean) 0 := ⟨(tw_of 953 (by decide +kernel) rfl), (tw_of 952 (by decide +kernel) rfl), (tw_of 59 (by decide +kernel) rfl), (tw_of 80 (by decide +kernel) rfl), rfl, by decide, by decide, by decide +kernel⟩
theorem mt_X7_isBarred : MtV yX7_isBarred 7 cX7_isBarred 5 (some .boolean) 1 := ⟨(tw_of 969 (by decide +kernel) rfl), (tw_of 968 (by decide +kernel) rfl), (tw_of 63 (by decide +kernel) rfl), (tw_of 80 (by decide +kernel) rfl), rfl, by decide, by decide, by decide +kernel⟩
theorem mt_X7_layReach : MtV yX7_layReach 7 cX7_layReach 11 none 2 := ⟨(tw_of 977 (by decide +kernel) rfl), (tw_of 976 (by decide +kernel) rfl), (tw_of 65 (by decide +kernel) rfl), (tw_of 80 (by decide +kernel) rfl), rfl, by decide, by decide, by decide +kernel⟩
theorem mt_X7_leaves : MtV yX7_leaves 7 cX7_leaves 7 (some .boolean) 1 := ⟨(tw_of 973 (by decide +kernel) rfl), (tw_of 972 (by decide +kernel) rfl), (tw_of 64 (by decide +kernel) rfl), (tw_of 80 (by decide +kernel) rfl), rfl, by decide, by decide, by decide +kernel⟩
theorem mt_X7_isOut : MtV yX7_isOut 7 cX7_isOut 2 (some .boolean) 1 := ⟨(tw_of 965 (by decide +kernel) rfl), (tw_of 964 (by decide +kernel) rfl), (tw_of 62 (by decide +kernel) rfl), (tw_of 80 (by decide +kernel) rfl), rfl, by decide, by decide, by decide +kernel⟩
theorem mt_X7_reachNow : MtV yX7_reachNow 7 cX7_reachNow 4 (some .int) 3 := ⟨(tw_of 961 (by decide +kernel) rfl), (tw_of 960 (by decide +kernel) rfl), (tw_of 61 (by decide +kernel) rfl), (tw_of 80 (by decide +kernel) rfl), rfl, by decide, by decide, by decide +kernel⟩
theorem mt_X7_reach : MtV yX7_reach 7 cX7_reach 4 (some .int) 3 := ⟨(tw_of 949 (by decide +kernel) rfl), (tw_of 947 (by decide +kernel) rfl), (tw_of 948 (by decide +kernel) rfl), (tw_of 80 (by decide +kernel) rfl), rfl, by decide, by decide, by decide +kernel⟩
theorem mt_X7_mostNow : MtV yX7_mostNow 7 cX7_mostNow 9 (some .int) 1 := ⟨(tw_of 989 (by decide +kernel) rfl), (tw_of 988 (by decide +kernel) rfl), (tw_of 67 (by decide +kernel) rfl), (tw_of 80 (by decide +kernel) rfl), rfl, by decide, by decide, by decide +kernel⟩
theorem mt_X7_sureNow : MtV yX7_sureNow 7 cX7_sureNow 6 (some .int) 1 := ⟨(tw_of 985 (by decide +kernel) rfl), (tw_of 984 (by decide +kernel) rfl), (tw_of 66 (by decide +kernel) rfl), (tw_of 80 (by decide +kernel) rfl), rfl, by decide, by decide, by decide +kernel⟩
theorem mt_X7_lasts : MtV yX7_lasts 7 cX7_lasts 3 (some .int) 2 := ⟨(tw_of 981 (by decide +kernel) rfl), (tw_of 979 (by decide +kernel) rfl), (tw_of 980 (by decide +kernel) rfl), (tw_of 80 (by decide +kernel) rfl), rfl, by decide, by decide, by decide +kernel⟩
theorem mt_X7_howMany : MtV yX7_howMany 7 cX7_howMany 2 (some .int) 1 := ⟨(tw_of 997 (by decide +kernel) rfl), (tw_of 996 (by decide +kernel) rfl), (tw_of 68 (by decide +kernel) rfl), (tw_of 80 (by decide +kernel) rfl), rfl, by decide, by decide, by decide +kernel⟩
theorem mt_X7_count : MtV yX7_count 7 cX7_count 2 (some .int) 1 := ⟨(tw_of 993 (by decide +kernel) rfl), (tw_of 991 (by decide +kernel) rfl), (tw_of 992 (by decide +kernel) rfl), (tw_of 80 (by decide +kernel) rfl), rfl, by decide, by decide, by decide +kernel⟩
theorem mt_X7_mix : MtV yX7_mix 7 cX7_mix 3 none 1 := ⟨(tw_of 1006 (by decide +kernel) rfl), (tw_of 1005 (by decide +kernel) rfl), (tw_of 69 (by decide +kernel) rfl), (tw_of 80 (by decide +kernel) rfl), rfl, by decide, by decide, by decide +kernel⟩
theorem mt_X7_mixReach : MtV yX7_mixReach 7 cX7_mixReach 3 none 0 := ⟨(tw_of 1016 (by decide +kernel) rfl), (tw_of 1015 (by decide +kernel) rfl), (tw_of 71 (by decide +kernel) rfl), (tw_of 80 (by decide +kernel) rfl), rfl, by decide, by decide, by decide +kernel⟩
theorem mt_X7_mixKernel : MtV yX7_mixKernel 7 cX7_mixKernel 2 none 0 := ⟨(tw_of 1012 (by decide +kernel) rfl), (tw_of 1011 (by decide +kernel) rfl), (tw_of 70 (by decide +kernel) rfl), (tw_of 80 (by decide +kernel) rfl), rfl, by decide, by decide, by decide +kernel⟩
theorem mt_X7_digest : MtV yX7_digest 7 cX7_digest 2 (some .long) 0 := ⟨(tw_of 1001 (by decide +kernel) rfl), (tw_of 999 (by decide +kernel) rfl), (tw_of 1000 (by decide +kernel) rfl), (tw_of 80 (by decide +kernel) rfl), rfl, by decide, by decide, by decide +kernel⟩
theorem pf_J9_abs_0f7a4 : plainFor yJ9_abs_0f7a4 = true := by decide +kernel
theorem pf_J6_bitCount_0f7a4 : plainFor yJ6_bitCount_0f7a4 = true := by decide +kernel
theorem pf_J9_max_7cf53 : plainFor yJ9_max_7cf53 = true := by decide +kernel
theorem pf_J9_max_f86c9 : plainFor yJ9_max_f86c9 = true := by decide +kernel
theorem pf_J9_min_f86c9 : plainFor yJ9_min_f86c9 = true := by decide +kernel
theorem pf_J9_abs_067f4 : plainFor yJ9_abs_067f4 = true := by decide +kernel
theorem pf_J9_floorDiv_f86c9 : plainFor yJ9_floorDiv_f86c9 = true := by decide +kernel
theorem ln_6_54 : Cond.methodLink (RN 6) 54 yX6_readPage ∈ tw := tw_of 278 (by decide +kernel) rfl
theorem ln_6_212 : Cond.methodLink (RN 6) 212 yX2_restart ∈ tw := tw_of 282 (by decide +kernel) rfl
theorem ln_2_15 : Cond.methodLink (RN 2) 15 yX2_enter ∈ tw := tw_of 286 (by decide +kernel) rfl
theorem ln_6_215 : Cond.methodLink (RN 6) 215 yX2_take ∈ tw := tw_of 290 (by decide +kernel) rfl
theorem ln_2_23 : Cond.methodLink (RN 2) 23 yX2_takeFigure ∈ tw := tw_of 294 (by decide +kernel) rfl
theorem ln_2_48 : Cond.methodLink (RN 2) 48 yJ9_abs_0f7a4 ∈ tw := tw_of 298 (by decide +kernel) rfl
theorem ln_2_54 : Cond.methodLink (RN 2) 54 yX2_limit ∈ tw := tw_of 301 (by decide +kernel) rfl
theorem ln_2_27 : Cond.methodLink (RN 2) 27 yX2_takeMinus ∈ tw := tw_of 305 (by decide +kernel) rfl
theorem ln_2_31 : Cond.methodLink (RN 2) 31 yX2_takeMark ∈ tw := tw_of 309 (by decide +kernel) rfl
theorem ln_2_58 : Cond.methodLink (RN 2) 58 yX2_markBehind ∈ tw := tw_of 313 (by decide +kernel) rfl
theorem ln_6_58 : Cond.methodLink (RN 6) 58 yX2_isWhole ∈ tw := tw_of 321 (by decide +kernel) rfl
theorem ln_2_34 : Cond.methodLink (RN 2) 34 yX2_isMiss ∈ tw := tw_of 325 (by decide +kernel) rfl
theorem ln_6_62 : Cond.methodLink (RN 6) 62 yX2_isSound ∈ tw := tw_of 329 (by decide +kernel) rfl
theorem ln_6_65 : Cond.methodLink (RN 6) 65 yX2_number ∈ tw := tw_of 336 (by decide +kernel) rfl
theorem ln_6_69 : Cond.methodLink (RN 6) 69 yX3_find ∈ tw := tw_of 340 (by decide +kernel) rfl
theorem ln_6_73 : Cond.methodLink (RN 6) 73 yX3_isFull ∈ tw := tw_of 345 (by decide +kernel) rfl
theorem ln_6_76 : Cond.methodLink (RN 6) 76 yX3_add ∈ tw := tw_of 349 (by decide +kernel) rfl
theorem ln_3_35 : Cond.methodLink (RN 3) 35 yX3_isFull ∈ tw := tw_of 353 (by decide +kernel) rfl
theorem ln_3_41 : Cond.methodLink (RN 3) 41 yX2_number ∈ tw := tw_of 354 (by decide +kernel) rfl
theorem ln_3_45 : Cond.methodLink (RN 3) 45 yX2_isMiss ∈ tw := tw_of 355 (by decide +kernel) rfl
theorem ln_6_83 : Cond.methodLink (RN 6) 83 yX6_settle ∈ tw := tw_of 356 (by decide +kernel) rfl
theorem ln_6_224 : Cond.methodLink (RN 6) 224 yX5_judge ∈ tw := tw_of 360 (by decide +kernel) rfl
theorem ln_5_31 : Cond.methodLink (RN 5) 31 yX5_gather ∈ tw := tw_of 364 (by decide +kernel) rfl
theorem ln_5_42 : Cond.methodLink (RN 5) 42 yX5_isClash ∈ tw := tw_of 368 (by decide +kernel) rfl
theorem ln_5_46 : Cond.methodLink (RN 5) 46 yX5_isDent ∈ tw := tw_of 371 (by decide +kernel) rfl
theorem ln_5_50 : Cond.methodLink (RN 5) 50 yX3_inner ∈ tw := tw_of 374 (by decide +kernel) rfl
theorem ln_5_54 : Cond.methodLink (RN 5) 54 yX3_outer ∈ tw := tw_of 378 (by decide +kernel) rfl
theorem ln_5_35 : Cond.methodLink (RN 5) 35 yX5_fewest ∈ tw := tw_of 382 (by decide +kernel) rfl
theorem ln_5_57 : Cond.methodLink (RN 5) 57 yJ6_bitCount_0f7a4 ∈ tw := tw_of 386 (by decide +kernel) rfl
theorem ln_5_62 : Cond.methodLink (RN 5) 62 yX5_isCure ∈ tw := tw_of 392 (by decide +kernel) rfl
theorem ln_6_228 : Cond.methodLink (RN 6) 228 yX1_wrap ∈ tw := tw_of 396 (by decide +kernel) rfl
theorem ln_1_24 : Cond.methodLink (RN 1) 24 yX1_collect ∈ tw := tw_of 400 (by decide +kernel) rfl
theorem ln_1_70 : Cond.methodLink (RN 1) 70 yX3_inner ∈ tw := tw_of 404 (by decide +kernel) rfl
theorem ln_1_76 : Cond.methodLink (RN 1) 76 yX1_addPoint ∈ tw := tw_of 405 (by decide +kernel) rfl
theorem ln_1_35 : Cond.methodLink (RN 1) 35 yX1_leftmost ∈ tw := tw_of 409 (by decide +kernel) rfl
theorem ln_1_39 : Cond.methodLink (RN 1) 39 yX1_next ∈ tw := tw_of 413 (by decide +kernel) rfl
theorem ln_1_80 : Cond.methodLink (RN 1) 80 yX1_isBeyond ∈ tw := tw_of 417 (by decide +kernel) rfl
theorem ln_1_46 : Cond.methodLink (RN 1) 46 yX1_square ∈ tw := tw_of 421 (by decide +kernel) rfl
theorem ln_6_89 : Cond.methodLink (RN 6) 89 yX3_has ∈ tw := tw_of 428 (by decide +kernel) rfl
theorem ln_6_94 : Cond.methodLink (RN 6) 94 yX3_remove ∈ tw := tw_of 433 (by decide +kernel) rfl
theorem ln_3_48 : Cond.methodLink (RN 3) 48 yX3_has ∈ tw := tw_of 437 (by decide +kernel) rfl
theorem ln_6_111 : Cond.methodLink (RN 6) 111 yX6_isBackGreat ∈ tw := tw_of 442 (by decide +kernel) rfl
theorem ln_6_125 : Cond.methodLink (RN 6) 125 yX6_chordFact ∈ tw := tw_of 452 (by decide +kernel) rfl
theorem ln_6_218 : Cond.methodLink (RN 6) 218 yX3_outer ∈ tw := tw_of 456 (by decide +kernel) rfl
theorem ln_6_221 : Cond.methodLink (RN 6) 221 yX3_inner ∈ tw := tw_of 457 (by decide +kernel) rfl
theorem ln_6_129 : Cond.methodLink (RN 6) 129 yX6_isHeight ∈ tw := tw_of 462 (by decide +kernel) rfl
theorem ln_6_132 : Cond.methodLink (RN 6) 132 yX6_allFit ∈ tw := tw_of 469 (by decide +kernel) rfl
theorem ln_6_139 : Cond.methodLink (RN 6) 139 yX1_doubleArea ∈ tw := tw_of 481 (by decide +kernel) rfl
theorem ln_1_43 : Cond.methodLink (RN 1) 43 yX1_after ∈ tw := tw_of 485 (by decide +kernel) rfl
theorem ln_6_142 : Cond.methodLink (RN 6) 142 yX1_longestSquare ∈ tw := tw_of 489 (by decide +kernel) rfl
theorem ln_1_50 : Cond.methodLink (RN 1) 50 yJ9_max_7cf53 ∈ tw := tw_of 493 (by decide +kernel) rfl
theorem ln_6_145 : Cond.methodLink (RN 6) 145 yX1_leastWidthSquare ∈ tw := tw_of 496 (by decide +kernel) rfl
theorem ln_1_55 : Cond.methodLink (RN 1) 55 yX1_widthSquare ∈ tw := tw_of 500 (by decide +kernel) rfl
theorem ln_1_84 : Cond.methodLink (RN 1) 84 yJ9_max_f86c9 ∈ tw := tw_of 504 (by decide +kernel) rfl
theorem ln_1_59 : Cond.methodLink (RN 1) 59 yJ9_min_f86c9 ∈ tw := tw_of 507 (by decide +kernel) rfl
theorem ln_6_148 : Cond.methodLink (RN 6) 148 yX6_isBit ∈ tw := tw_of 514 (by decide +kernel) rfl
theorem ln_6_157 : Cond.methodLink (RN 6) 157 yX4_measureHeld ∈ tw := tw_of 521 (by decide +kernel) rfl
theorem ln_4_21 : Cond.methodLink (RN 4) 21 yX4_hold ∈ tw := tw_of 525 (by decide +kernel) rfl
theorem ln_4_72 : Cond.methodLink (RN 4) 72 yX0_release ∈ tw := tw_of 528 (by decide +kernel) rfl
theorem ln_4_89 : Cond.methodLink (RN 4) 89 yX3_inner ∈ tw := tw_of 532 (by decide +kernel) rfl
theorem ln_4_93 : Cond.methodLink (RN 4) 93 yX0_lower ∈ tw := tw_of 533 (by decide +kernel) rfl
theorem ln_0_20 : Cond.methodLink (RN 0) 20 yX0_put ∈ tw := tw_of 537 (by decide +kernel) rfl
theorem ln_6_161 : Cond.methodLink (RN 6) 161 yX4_tell ∈ tw := tw_of 541 (by decide +kernel) rfl
theorem ln_4_49 : Cond.methodLink (RN 4) 49 yX0_lowestBottom ∈ tw := tw_of 547 (by decide +kernel) rfl
theorem ln_0_24 : Cond.methodLink (RN 0) 24 yX0_divisor ∈ tw := tw_of 551 (by decide +kernel) rfl
theorem ln_0_28 : Cond.methodLink (RN 0) 28 yJ9_abs_067f4 ∈ tw := tw_of 555 (by decide +kernel) rfl
theorem ln_4_53 : Cond.methodLink (RN 4) 53 yX0_lowestTop ∈ tw := tw_of 558 (by decide +kernel) rfl
theorem ln_6_164 : Cond.methodLink (RN 6) 164 yX3_hasChord ∈ tw := tw_of 566 (by decide +kernel) rfl
theorem ln_3_52 : Cond.methodLink (RN 3) 52 yX3_missCount ∈ tw := tw_of 570 (by decide +kernel) rfl
theorem ln_6_167 : Cond.methodLink (RN 6) 167 yX4_measureReached ∈ tw := tw_of 574 (by decide +kernel) rfl
theorem ln_4_32 : Cond.methodLink (RN 4) 32 yX4_bind ∈ tw := tw_of 578 (by decide +kernel) rfl
theorem ln_4_97 : Cond.methodLink (RN 4) 97 yX3_outer ∈ tw := tw_of 581 (by decide +kernel) rfl
theorem ln_4_100 : Cond.methodLink (RN 4) 100 yX0_raise ∈ tw := tw_of 582 (by decide +kernel) rfl
theorem ln_4_103 : Cond.methodLink (RN 4) 103 yX4_isBetween ∈ tw := tw_of 586 (by decide +kernel) rfl
theorem ln_4_107 : Cond.methodLink (RN 4) 107 yJ9_abs_0f7a4 ∈ tw := tw_of 589 (by decide +kernel) rfl
theorem ln_4_35 : Cond.methodLink (RN 4) 35 yX4_isBarred ∈ tw := tw_of 590 (by decide +kernel) rfl
theorem ln_4_39 : Cond.methodLink (RN 4) 39 yX4_isBoundless ∈ tw := tw_of 593 (by decide +kernel) rfl
theorem ln_4_43 : Cond.methodLink (RN 4) 43 yX4_lengthTop ∈ tw := tw_of 597 (by decide +kernel) rfl
theorem ln_6_170 : Cond.methodLink (RN 6) 170 yX4_ticksDown ∈ tw := tw_of 605 (by decide +kernel) rfl
theorem ln_4_56 : Cond.methodLink (RN 4) 56 yX4_lengthBottom ∈ tw := tw_of 609 (by decide +kernel) rfl
theorem ln_4_59 : Cond.methodLink (RN 4) 59 yJ9_floorDiv_f86c9 ∈ tw := tw_of 613 (by decide +kernel) rfl
theorem ln_6_173 : Cond.methodLink (RN 6) 173 yX4_ticksUp ∈ tw := tw_of 616 (by decide +kernel) rfl
theorem ln_6_176 : Cond.methodLink (RN 6) 176 yX3_missCount ∈ tw := tw_of 624 (by decide +kernel) rfl
theorem ln_6_183 : Cond.methodLink (RN 6) 183 yX6_station ∈ tw := tw_of 631 (by decide +kernel) rfl
theorem ln_6_186 : Cond.methodLink (RN 6) 186 yX6_fits ∈ tw := tw_of 632 (by decide +kernel) rfl
theorem ln_6_189 : Cond.methodLink (RN 6) 189 yX6_wrong ∈ tw := tw_of 633 (by decide +kernel) rfl
theorem ln_6_192 : Cond.methodLink (RN 6) 192 yX6_mixKernel ∈ tw := tw_of 634 (by decide +kernel) rfl
theorem ln_6_202 : Cond.methodLink (RN 6) 202 yX6_kernel ∈ tw := tw_of 638 (by decide +kernel) rfl
theorem ln_6_205 : Cond.methodLink (RN 6) 205 yX6_corner ∈ tw := tw_of 639 (by decide +kernel) rfl
theorem ln_6_196 : Cond.methodLink (RN 6) 196 yX6_mixReach ∈ tw := tw_of 640 (by decide +kernel) rfl
theorem ln_6_208 : Cond.methodLink (RN 6) 208 yX6_reach ∈ tw := tw_of 644 (by decide +kernel) rfl
theorem ln_6_199 : Cond.methodLink (RN 6) 199 yX6_count ∈ tw := tw_of 645 (by decide +kernel) rfl
theorem ln_7_50 : Cond.methodLink (RN 7) 50 yX7_within ∈ tw := tw_of 735 (by decide +kernel) rfl
theorem ln_7_90 : Cond.methodLink (RN 7) 90 yX7_goAlong ∈ tw := tw_of 748 (by decide +kernel) rfl
theorem ln_7_87 : Cond.methodLink (RN 7) 87 yX7_takes ∈ tw := tw_of 752 (by decide +kernel) rfl
theorem ln_7_80 : Cond.methodLink (RN 7) 80 yX7_takesFigure ∈ tw := tw_of 758 (by decide +kernel) rfl
theorem ln_7_69 : Cond.methodLink (RN 7) 69 yX7_mostOf ∈ tw := tw_of 762 (by decide +kernel) rfl
theorem ln_7_84 : Cond.methodLink (RN 7) 84 yX7_goesTo ∈ tw := tw_of 766 (by decide +kernel) rfl
theorem ln_7_101 : Cond.methodLink (RN 7) 101 yX7_isReport ∈ tw := tw_of 774 (by decide +kernel) rfl
theorem ln_7_93 : Cond.methodLink (RN 7) 93 yX7_findStation ∈ tw := tw_of 778 (by decide +kernel) rfl
theorem ln_7_109 : Cond.methodLink (RN 7) 109 yX7_isStation ∈ tw := tw_of 788 (by decide +kernel) rfl
theorem ln_7_124 : Cond.methodLink (RN 7) 124 yX7_stationNow ∈ tw := tw_of 807 (by decide +kernel) rfl
theorem ln_7_118 : Cond.methodLink (RN 7) 118 yX7_bound ∈ tw := tw_of 811 (by decide +kernel) rfl
theorem ln_7_151 : Cond.methodLink (RN 7) 151 yX7_fit ∈ tw := tw_of 825 (by decide +kernel) rfl
theorem ln_7_145 : Cond.methodLink (RN 7) 145 yX7_all ∈ tw := tw_of 829 (by decide +kernel) rfl
theorem ln_7_148 : Cond.methodLink (RN 7) 148 yX7_fitsFor ∈ tw := tw_of 833 (by decide +kernel) rfl
theorem ln_7_135 : Cond.methodLink (RN 7) 135 yX7_isHit ∈ tw := tw_of 837 (by decide +kernel) rfl
theorem ln_7_131 : Cond.methodLink (RN 7) 131 yX7_has ∈ tw := tw_of 841 (by decide +kernel) rfl
theorem ln_7_138 : Cond.methodLink (RN 7) 138 yX7_isBetween ∈ tw := tw_of 844 (by decide +kernel) rfl
theorem ln_7_142 : Cond.methodLink (RN 7) 142 yX7_letsBoth ∈ tw := tw_of 847 (by decide +kernel) rfl
theorem ln_7_157 : Cond.methodLink (RN 7) 157 yX7_wrongNow ∈ tw := tw_of 855 (by decide +kernel) rfl
theorem ln_7_154 : Cond.methodLink (RN 7) 154 yX7_many ∈ tw := tw_of 859 (by decide +kernel) rfl
theorem ln_7_199 : Cond.methodLink (RN 7) 199 yX7_kernelNow ∈ tw := tw_of 867 (by decide +kernel) rfl
theorem ln_7_184 : Cond.methodLink (RN 7) 184 yX7_layCorners ∈ tw := tw_of 871 (by decide +kernel) rfl
theorem ln_7_171 : Cond.methodLink (RN 7) 171 yX7_layPoints ∈ tw := tw_of 875 (by decide +kernel) rfl
theorem ln_7_177 : Cond.methodLink (RN 7) 177 yX7_nextCorner ∈ tw := tw_of 879 (by decide +kernel) rfl
theorem ln_7_163 : Cond.methodLink (RN 7) 163 yX7_turn ∈ tw := tw_of 883 (by decide +kernel) rfl
theorem ln_7_167 : Cond.methodLink (RN 7) 167 yX7_square ∈ tw := tw_of 887 (by decide +kernel) rfl
theorem ln_7_187 : Cond.methodLink (RN 7) 187 yX7_area ∈ tw := tw_of 891 (by decide +kernel) rfl
theorem ln_7_191 : Cond.methodLink (RN 7) 191 yX7_longest ∈ tw := tw_of 895 (by decide +kernel) rfl
theorem ln_7_194 : Cond.methodLink (RN 7) 194 yX7_wide ∈ tw := tw_of 899 (by decide +kernel) rfl
theorem ln_7_180 : Cond.methodLink (RN 7) 180 yX7_widthOn ∈ tw := tw_of 903 (by decide +kernel) rfl
theorem ln_7_202 : Cond.methodLink (RN 7) 202 yX7_cornerNow ∈ tw := tw_of 911 (by decide +kernel) rfl
theorem ln_7_234 : Cond.methodLink (RN 7) 234 yX7_isAsk ∈ tw := tw_of 919 (by decide +kernel) rfl
theorem ln_7_237 : Cond.methodLink (RN 7) 237 yX7_heldNow ∈ tw := tw_of 922 (by decide +kernel) rfl
theorem ln_7_226 : Cond.methodLink (RN 7) 226 yX7_layHeld ∈ tw := tw_of 926 (by decide +kernel) rfl
theorem ln_7_219 : Cond.methodLink (RN 7) 219 yX7_begins ∈ tw := tw_of 930 (by decide +kernel) rfl
theorem ln_7_222 : Cond.methodLink (RN 7) 222 yX7_look ∈ tw := tw_of 934 (by decide +kernel) rfl
theorem ln_7_230 : Cond.methodLink (RN 7) 230 yX7_told ∈ tw := tw_of 938 (by decide +kernel) rfl
theorem ln_7_215 : Cond.methodLink (RN 7) 215 yX7_common ∈ tw := tw_of 942 (by decide +kernel) rfl
theorem ln_7_256 : Cond.methodLink (RN 7) 256 yX7_canReach ∈ tw := tw_of 950 (by decide +kernel) rfl
theorem ln_7_253 : Cond.methodLink (RN 7) 253 yX7_hits ∈ tw := tw_of 954 (by decide +kernel) rfl
theorem ln_7_259 : Cond.methodLink (RN 7) 259 yX7_reachNow ∈ tw := tw_of 958 (by decide +kernel) rfl
theorem ln_7_250 : Cond.methodLink (RN 7) 250 yX7_isOut ∈ tw := tw_of 962 (by decide +kernel) rfl
theorem ln_7_244 : Cond.methodLink (RN 7) 244 yX7_isBarred ∈ tw := tw_of 966 (by decide +kernel) rfl
theorem ln_7_247 : Cond.methodLink (RN 7) 247 yX7_leaves ∈ tw := tw_of 970 (by decide +kernel) rfl
theorem ln_7_241 : Cond.methodLink (RN 7) 241 yX7_layReach ∈ tw := tw_of 974 (by decide +kernel) rfl
theorem ln_7_262 : Cond.methodLink (RN 7) 262 yX7_sureNow ∈ tw := tw_of 982 (by decide +kernel) rfl
theorem ln_7_265 : Cond.methodLink (RN 7) 265 yX7_mostNow ∈ tw := tw_of 986 (by decide +kernel) rfl
theorem ln_7_268 : Cond.methodLink (RN 7) 268 yX7_howMany ∈ tw := tw_of 994 (by decide +kernel) rfl
theorem ln_7_276 : Cond.methodLink (RN 7) 276 yX7_mix ∈ tw := tw_of 1003 (by decide +kernel) rfl
theorem ln_7_282 : Cond.methodLink (RN 7) 282 yX7_fits ∈ tw := tw_of 1008 (by decide +kernel) rfl
theorem ln_7_285 : Cond.methodLink (RN 7) 285 yX7_mixKernel ∈ tw := tw_of 1009 (by decide +kernel) rfl
theorem ln_7_288 : Cond.methodLink (RN 7) 288 yX7_mixReach ∈ tw := tw_of 1013 (by decide +kernel) rfl
