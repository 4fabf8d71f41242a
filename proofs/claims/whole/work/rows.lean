section
-- ===== PART A: goes FIRST, ahead of the names: the tables' words, and 'selects' of the private methods out of them =====
/-- a private method of a class that the tables say can be made, by its rows of tables_1 -/
def lw_okq (q : MethodName × Nat) : Prop := (q.1.cls ≠ "java/lang/invoke/MethodHandle" ∧ q.1.cls ≠ "java/lang/invoke/VarHandle") ∧ Cond.instantiable q.1.cls q.2 ∈ tables_1 ∧ Cond.privateMethod q.1 ∈ tables_1 ∧ Cond.instanceMethod q.1 ∈ tables_1
theorem lw_p0 : lw_okq (⟨"ShadowSpans", "readPage", "()I"⟩, 9) := ⟨⟨by decide +kernel, by decide +kernel⟩, List.mem_of_getElem? (i := 12) (by decide +kernel), List.mem_of_getElem? (i := 207) (by decide +kernel), List.mem_of_getElem? (i := 208) (by decide +kernel)⟩
theorem lw_p1 : lw_okq (⟨"ShadowSpans$Reader", "enter", "(I)V"⟩, 4) := ⟨⟨by decide +kernel, by decide +kernel⟩, List.mem_of_getElem? (i := 20) (by decide +kernel), List.mem_of_getElem? (i := 215) (by decide +kernel), List.mem_of_getElem? (i := 216) (by decide +kernel)⟩
theorem lw_p2 : lw_okq (⟨"ShadowSpans$Reader", "takeFigure", "(I)Z"⟩, 4) := ⟨⟨by decide +kernel, by decide +kernel⟩, List.mem_of_getElem? (i := 20) (by decide +kernel), List.mem_of_getElem? (i := 223) (by decide +kernel), List.mem_of_getElem? (i := 224) (by decide +kernel)⟩
theorem lw_p3 : lw_okq (⟨"ShadowSpans$Reader", "limit", "()I"⟩, 4) := ⟨⟨by decide +kernel, by decide +kernel⟩, List.mem_of_getElem? (i := 20) (by decide +kernel), List.mem_of_getElem? (i := 230) (by decide +kernel), List.mem_of_getElem? (i := 231) (by decide +kernel)⟩
theorem lw_p4 : lw_okq (⟨"ShadowSpans$Reader", "takeMinus", "()Z"⟩, 4) := ⟨⟨by decide +kernel, by decide +kernel⟩, List.mem_of_getElem? (i := 20) (by decide +kernel), List.mem_of_getElem? (i := 234) (by decide +kernel), List.mem_of_getElem? (i := 235) (by decide +kernel)⟩
theorem lw_p5 : lw_okq (⟨"ShadowSpans$Reader", "takeMark", "(I)Z"⟩, 4) := ⟨⟨by decide +kernel, by decide +kernel⟩, List.mem_of_getElem? (i := 20) (by decide +kernel), List.mem_of_getElem? (i := 238) (by decide +kernel), List.mem_of_getElem? (i := 239) (by decide +kernel)⟩
theorem lw_p6 : lw_okq (⟨"ShadowSpans$Reader", "markBehind", "()I"⟩, 4) := ⟨⟨by decide +kernel, by decide +kernel⟩, List.mem_of_getElem? (i := 20) (by decide +kernel), List.mem_of_getElem? (i := 242) (by decide +kernel), List.mem_of_getElem? (i := 243) (by decide +kernel)⟩
theorem lw_p7 : lw_okq (⟨"ShadowSpans", "settle", "()V"⟩, 9) := ⟨⟨by decide +kernel, by decide +kernel⟩, List.mem_of_getElem? (i := 12) (by decide +kernel), List.mem_of_getElem? (i := 285) (by decide +kernel), List.mem_of_getElem? (i := 286) (by decide +kernel)⟩
theorem lw_p8 : lw_okq (⟨"ShadowSpans$Verdict", "gather", "(LShadowSpans$Roster;II)V"⟩, 3) := ⟨⟨by decide +kernel, by decide +kernel⟩, List.mem_of_getElem? (i := 85) (by decide +kernel), List.mem_of_getElem? (i := 293) (by decide +kernel), List.mem_of_getElem? (i := 294) (by decide +kernel)⟩
theorem lw_p9 : lw_okq (⟨"ShadowSpans$Verdict", "fewest", "(I)I"⟩, 3) := ⟨⟨by decide +kernel, by decide +kernel⟩, List.mem_of_getElem? (i := 85) (by decide +kernel), List.mem_of_getElem? (i := 311) (by decide +kernel), List.mem_of_getElem? (i := 312) (by decide +kernel)⟩
theorem lw_p10 : lw_okq (⟨"ShadowSpans$Verdict", "isCure", "(I)Z"⟩, 3) := ⟨⟨by decide +kernel, by decide +kernel⟩, List.mem_of_getElem? (i := 85) (by decide +kernel), List.mem_of_getElem? (i := 321) (by decide +kernel), List.mem_of_getElem? (i := 322) (by decide +kernel)⟩
theorem lw_p11 : lw_okq (⟨"ShadowSpans$Hull", "collect", "(LShadowSpans$Roster;)V"⟩, 6) := ⟨⟨by decide +kernel, by decide +kernel⟩, List.mem_of_getElem? (i := 102) (by decide +kernel), List.mem_of_getElem? (i := 329) (by decide +kernel), List.mem_of_getElem? (i := 330) (by decide +kernel)⟩
theorem lw_p12 : lw_okq (⟨"ShadowSpans$Hull", "addPoint", "(II)V"⟩, 6) := ⟨⟨by decide +kernel, by decide +kernel⟩, List.mem_of_getElem? (i := 102) (by decide +kernel), List.mem_of_getElem? (i := 334) (by decide +kernel), List.mem_of_getElem? (i := 335) (by decide +kernel)⟩
theorem lw_p13 : lw_okq (⟨"ShadowSpans$Hull", "leftmost", "()I"⟩, 6) := ⟨⟨by decide +kernel, by decide +kernel⟩, List.mem_of_getElem? (i := 102) (by decide +kernel), List.mem_of_getElem? (i := 338) (by decide +kernel), List.mem_of_getElem? (i := 339) (by decide +kernel)⟩
theorem lw_p14 : lw_okq (⟨"ShadowSpans$Hull", "next", "(I)I"⟩, 6) := ⟨⟨by decide +kernel, by decide +kernel⟩, List.mem_of_getElem? (i := 102) (by decide +kernel), List.mem_of_getElem? (i := 342) (by decide +kernel), List.mem_of_getElem? (i := 343) (by decide +kernel)⟩
theorem lw_p15 : lw_okq (⟨"ShadowSpans$Hull", "isBeyond", "(III)Z"⟩, 6) := ⟨⟨by decide +kernel, by decide +kernel⟩, List.mem_of_getElem? (i := 102) (by decide +kernel), List.mem_of_getElem? (i := 346) (by decide +kernel), List.mem_of_getElem? (i := 347) (by decide +kernel)⟩
def lw_privs_1 : List (MethodName × Nat) := [(⟨"ShadowSpans", "readPage", "()I"⟩, 9), (⟨"ShadowSpans$Reader", "enter", "(I)V"⟩, 4), (⟨"ShadowSpans$Reader", "takeFigure", "(I)Z"⟩, 4), (⟨"ShadowSpans$Reader", "limit", "()I"⟩, 4), (⟨"ShadowSpans$Reader", "takeMinus", "()Z"⟩, 4), (⟨"ShadowSpans$Reader", "takeMark", "(I)Z"⟩, 4), (⟨"ShadowSpans$Reader", "markBehind", "()I"⟩, 4), (⟨"ShadowSpans", "settle", "()V"⟩, 9), (⟨"ShadowSpans$Verdict", "gather", "(LShadowSpans$Roster;II)V"⟩, 3), (⟨"ShadowSpans$Verdict", "fewest", "(I)I"⟩, 3), (⟨"ShadowSpans$Verdict", "isCure", "(I)Z"⟩, 3), (⟨"ShadowSpans$Hull", "collect", "(LShadowSpans$Roster;)V"⟩, 6), (⟨"ShadowSpans$Hull", "addPoint", "(II)V"⟩, 6), (⟨"ShadowSpans$Hull", "leftmost", "()I"⟩, 6), (⟨"ShadowSpans$Hull", "next", "(I)I"⟩, 6), (⟨"ShadowSpans$Hull", "isBeyond", "(III)Z"⟩, 6)]
theorem lw_r1 : ∀ q ∈ lw_privs_1, lw_okq q := List.forall_mem_cons.mpr ⟨lw_p0, List.forall_mem_cons.mpr ⟨lw_p1, List.forall_mem_cons.mpr ⟨lw_p2, List.forall_mem_cons.mpr ⟨lw_p3, List.forall_mem_cons.mpr ⟨lw_p4, List.forall_mem_cons.mpr ⟨lw_p5, List.forall_mem_cons.mpr ⟨lw_p6, List.forall_mem_cons.mpr ⟨lw_p7, List.forall_mem_cons.mpr ⟨lw_p8, List.forall_mem_cons.mpr ⟨lw_p9, List.forall_mem_cons.mpr ⟨lw_p10, List.forall_mem_cons.mpr ⟨lw_p11, List.forall_mem_cons.mpr ⟨lw_p12, List.forall_mem_cons.mpr ⟨lw_p13, List.forall_mem_cons.mpr ⟨lw_p14, List.forall_mem_cons.mpr ⟨lw_p15, fun _ h => absurd h List.not_mem_nil⟩⟩⟩⟩⟩⟩⟩⟩⟩⟩⟩⟩⟩⟩⟩⟩
theorem lw_p16 : lw_okq (⟨"ShadowSpans", "chordFact", "(II)I"⟩, 9) := ⟨⟨by decide +kernel, by decide +kernel⟩, List.mem_of_getElem? (i := 12) (by decide +kernel), List.mem_of_getElem? (i := 381) (by decide +kernel), List.mem_of_getElem? (i := 382) (by decide +kernel)⟩
theorem lw_p17 : lw_okq (⟨"ShadowSpans", "allFit", "()Z"⟩, 9) := ⟨⟨by decide +kernel, by decide +kernel⟩, List.mem_of_getElem? (i := 12) (by decide +kernel), List.mem_of_getElem? (i := 398) (by decide +kernel), List.mem_of_getElem? (i := 399) (by decide +kernel)⟩
theorem lw_p18 : lw_okq (⟨"ShadowSpans$Hull", "after", "(I)I"⟩, 6) := ⟨⟨by decide +kernel, by decide +kernel⟩, List.mem_of_getElem? (i := 102) (by decide +kernel), List.mem_of_getElem? (i := 414) (by decide +kernel), List.mem_of_getElem? (i := 415) (by decide +kernel)⟩
theorem lw_p19 : lw_okq (⟨"ShadowSpans$Hull", "widthSquare", "(I)J"⟩, 6) := ⟨⟨by decide +kernel, by decide +kernel⟩, List.mem_of_getElem? (i := 102) (by decide +kernel), List.mem_of_getElem? (i := 429) (by decide +kernel), List.mem_of_getElem? (i := 430) (by decide +kernel)⟩
theorem lw_p20 : lw_okq (⟨"ShadowSpans$Bound", "put", "(JJ)V"⟩, 3) := ⟨⟨by decide +kernel, by decide +kernel⟩, List.mem_of_getElem? (i := 136) (by decide +kernel), List.mem_of_getElem? (i := 466) (by decide +kernel), List.mem_of_getElem? (i := 467) (by decide +kernel)⟩
theorem lw_p21 : lw_okq (⟨"ShadowSpans$Bound", "divisor", "()J"⟩, 3) := ⟨⟨by decide +kernel, by decide +kernel⟩, List.mem_of_getElem? (i := 136) (by decide +kernel), List.mem_of_getElem? (i := 480) (by decide +kernel), List.mem_of_getElem? (i := 481) (by decide +kernel)⟩
theorem lw_p22 : lw_okq (⟨"ShadowSpans$Span", "isBoundless", "()Z"⟩, 3) := ⟨⟨by decide +kernel, by decide +kernel⟩, List.mem_of_getElem? (i := 130) (by decide +kernel), List.mem_of_getElem? (i := 522) (by decide +kernel), List.mem_of_getElem? (i := 523) (by decide +kernel)⟩
theorem lw_p23 : lw_okq (⟨"ShadowSpans$Span", "lengthTop", "()J"⟩, 3) := ⟨⟨by decide +kernel, by decide +kernel⟩, List.mem_of_getElem? (i := 130) (by decide +kernel), List.mem_of_getElem? (i := 526) (by decide +kernel), List.mem_of_getElem? (i := 527) (by decide +kernel)⟩
theorem lw_p24 : lw_okq (⟨"ShadowSpans$Span", "lengthBottom", "()J"⟩, 3) := ⟨⟨by decide +kernel, by decide +kernel⟩, List.mem_of_getElem? (i := 130) (by decide +kernel), List.mem_of_getElem? (i := 538) (by decide +kernel), List.mem_of_getElem? (i := 539) (by decide +kernel)⟩
theorem lw_p25 : lw_okq (⟨"ShadowSpans", "mixKernel", "(J)J"⟩, 9) := ⟨⟨by decide +kernel, by decide +kernel⟩, List.mem_of_getElem? (i := 12) (by decide +kernel), List.mem_of_getElem? (i := 563) (by decide +kernel), List.mem_of_getElem? (i := 564) (by decide +kernel)⟩
theorem lw_p26 : lw_okq (⟨"ShadowSpans", "mixReach", "(J)J"⟩, 9) := ⟨⟨by decide +kernel, by decide +kernel⟩, List.mem_of_getElem? (i := 12) (by decide +kernel), List.mem_of_getElem? (i := 569) (by decide +kernel), List.mem_of_getElem? (i := 570) (by decide +kernel)⟩
theorem lw_p27 : lw_okq (⟨"ShadowSpansModel", "goAlong", "()I"⟩, 25) := ⟨⟨by decide +kernel, by decide +kernel⟩, List.mem_of_getElem? (i := 575) (by decide +kernel), List.mem_of_getElem? (i := 677) (by decide +kernel), List.mem_of_getElem? (i := 678) (by decide +kernel)⟩
theorem lw_p28 : lw_okq (⟨"ShadowSpansModel", "takes", "(I)Z"⟩, 25) := ⟨⟨by decide +kernel, by decide +kernel⟩, List.mem_of_getElem? (i := 575) (by decide +kernel), List.mem_of_getElem? (i := 681) (by decide +kernel), List.mem_of_getElem? (i := 682) (by decide +kernel)⟩
theorem lw_p29 : lw_okq (⟨"ShadowSpansModel", "takesFigure", "(I)Z"⟩, 25) := ⟨⟨by decide +kernel, by decide +kernel⟩, List.mem_of_getElem? (i := 575) (by decide +kernel), List.mem_of_getElem? (i := 687) (by decide +kernel), List.mem_of_getElem? (i := 688) (by decide +kernel)⟩
theorem lw_p30 : lw_okq (⟨"ShadowSpansModel", "mostOf", "()I"⟩, 25) := ⟨⟨by decide +kernel, by decide +kernel⟩, List.mem_of_getElem? (i := 575) (by decide +kernel), List.mem_of_getElem? (i := 691) (by decide +kernel), List.mem_of_getElem? (i := 692) (by decide +kernel)⟩
theorem lw_p31 : lw_okq (⟨"ShadowSpansModel", "goesTo", "(I)Z"⟩, 25) := ⟨⟨by decide +kernel, by decide +kernel⟩, List.mem_of_getElem? (i := 575) (by decide +kernel), List.mem_of_getElem? (i := 695) (by decide +kernel), List.mem_of_getElem? (i := 696) (by decide +kernel)⟩
def lw_privs_2 : List (MethodName × Nat) := [(⟨"ShadowSpans", "chordFact", "(II)I"⟩, 9), (⟨"ShadowSpans", "allFit", "()Z"⟩, 9), (⟨"ShadowSpans$Hull", "after", "(I)I"⟩, 6), (⟨"ShadowSpans$Hull", "widthSquare", "(I)J"⟩, 6), (⟨"ShadowSpans$Bound", "put", "(JJ)V"⟩, 3), (⟨"ShadowSpans$Bound", "divisor", "()J"⟩, 3), (⟨"ShadowSpans$Span", "isBoundless", "()Z"⟩, 3), (⟨"ShadowSpans$Span", "lengthTop", "()J"⟩, 3), (⟨"ShadowSpans$Span", "lengthBottom", "()J"⟩, 3), (⟨"ShadowSpans", "mixKernel", "(J)J"⟩, 9), (⟨"ShadowSpans", "mixReach", "(J)J"⟩, 9), (⟨"ShadowSpansModel", "goAlong", "()I"⟩, 25), (⟨"ShadowSpansModel", "takes", "(I)Z"⟩, 25), (⟨"ShadowSpansModel", "takesFigure", "(I)Z"⟩, 25), (⟨"ShadowSpansModel", "mostOf", "()I"⟩, 25), (⟨"ShadowSpansModel", "goesTo", "(I)Z"⟩, 25)]
theorem lw_r2 : ∀ q ∈ lw_privs_2, lw_okq q := List.forall_mem_cons.mpr ⟨lw_p16, List.forall_mem_cons.mpr ⟨lw_p17, List.forall_mem_cons.mpr ⟨lw_p18, List.forall_mem_cons.mpr ⟨lw_p19, List.forall_mem_cons.mpr ⟨lw_p20, List.forall_mem_cons.mpr ⟨lw_p21, List.forall_mem_cons.mpr ⟨lw_p22, List.forall_mem_cons.mpr ⟨lw_p23, List.forall_mem_cons.mpr ⟨lw_p24, List.forall_mem_cons.mpr ⟨lw_p25, List.forall_mem_cons.mpr ⟨lw_p26, List.forall_mem_cons.mpr ⟨lw_p27, List.forall_mem_cons.mpr ⟨lw_p28, List.forall_mem_cons.mpr ⟨lw_p29, List.forall_mem_cons.mpr ⟨lw_p30, List.forall_mem_cons.mpr ⟨lw_p31, fun _ h => absurd h List.not_mem_nil⟩⟩⟩⟩⟩⟩⟩⟩⟩⟩⟩⟩⟩⟩⟩⟩
theorem lw_p32 : lw_okq (⟨"ShadowSpansModel", "isReport", "()Z"⟩, 25) := ⟨⟨by decide +kernel, by decide +kernel⟩, List.mem_of_getElem? (i := 575) (by decide +kernel), List.mem_of_getElem? (i := 703) (by decide +kernel), List.mem_of_getElem? (i := 704) (by decide +kernel)⟩
theorem lw_p33 : lw_okq (⟨"ShadowSpansModel", "findStation", "(I)I"⟩, 25) := ⟨⟨by decide +kernel, by decide +kernel⟩, List.mem_of_getElem? (i := 575) (by decide +kernel), List.mem_of_getElem? (i := 707) (by decide +kernel), List.mem_of_getElem? (i := 708) (by decide +kernel)⟩
theorem lw_p34 : lw_okq (⟨"ShadowSpansModel", "isStation", "(I)Z"⟩, 25) := ⟨⟨by decide +kernel, by decide +kernel⟩, List.mem_of_getElem? (i := 575) (by decide +kernel), List.mem_of_getElem? (i := 717) (by decide +kernel), List.mem_of_getElem? (i := 718) (by decide +kernel)⟩
theorem lw_p35 : lw_okq (⟨"ShadowSpansModel", "stationNow", "(II)I"⟩, 25) := ⟨⟨by decide +kernel, by decide +kernel⟩, List.mem_of_getElem? (i := 575) (by decide +kernel), List.mem_of_getElem? (i := 736) (by decide +kernel), List.mem_of_getElem? (i := 737) (by decide +kernel)⟩
theorem lw_p36 : lw_okq (⟨"ShadowSpansModel", "bound", "(II)I"⟩, 25) := ⟨⟨by decide +kernel, by decide +kernel⟩, List.mem_of_getElem? (i := 575) (by decide +kernel), List.mem_of_getElem? (i := 740) (by decide +kernel), List.mem_of_getElem? (i := 741) (by decide +kernel)⟩
theorem lw_p37 : lw_okq (⟨"ShadowSpansModel", "fit", "()Z"⟩, 25) := ⟨⟨by decide +kernel, by decide +kernel⟩, List.mem_of_getElem? (i := 575) (by decide +kernel), List.mem_of_getElem? (i := 754) (by decide +kernel), List.mem_of_getElem? (i := 755) (by decide +kernel)⟩
theorem lw_p38 : lw_okq (⟨"ShadowSpansModel", "all", "()I"⟩, 25) := ⟨⟨by decide +kernel, by decide +kernel⟩, List.mem_of_getElem? (i := 575) (by decide +kernel), List.mem_of_getElem? (i := 758) (by decide +kernel), List.mem_of_getElem? (i := 759) (by decide +kernel)⟩
theorem lw_p39 : lw_okq (⟨"ShadowSpansModel", "fitsFor", "(I)Z"⟩, 25) := ⟨⟨by decide +kernel, by decide +kernel⟩, List.mem_of_getElem? (i := 575) (by decide +kernel), List.mem_of_getElem? (i := 762) (by decide +kernel), List.mem_of_getElem? (i := 763) (by decide +kernel)⟩
theorem lw_p40 : lw_okq (⟨"ShadowSpansModel", "isHit", "(II)Z"⟩, 25) := ⟨⟨by decide +kernel, by decide +kernel⟩, List.mem_of_getElem? (i := 575) (by decide +kernel), List.mem_of_getElem? (i := 766) (by decide +kernel), List.mem_of_getElem? (i := 767) (by decide +kernel)⟩
theorem lw_p41 : lw_okq (⟨"ShadowSpansModel", "letsBoth", "(III)Z"⟩, 25) := ⟨⟨by decide +kernel, by decide +kernel⟩, List.mem_of_getElem? (i := 575) (by decide +kernel), List.mem_of_getElem? (i := 776) (by decide +kernel), List.mem_of_getElem? (i := 777) (by decide +kernel)⟩
theorem lw_p42 : lw_okq (⟨"ShadowSpansModel", "wrongNow", "()I"⟩, 25) := ⟨⟨by decide +kernel, by decide +kernel⟩, List.mem_of_getElem? (i := 575) (by decide +kernel), List.mem_of_getElem? (i := 784) (by decide +kernel), List.mem_of_getElem? (i := 785) (by decide +kernel)⟩
theorem lw_p43 : lw_okq (⟨"ShadowSpansModel", "kernelNow", "(I)I"⟩, 25) := ⟨⟨by decide +kernel, by decide +kernel⟩, List.mem_of_getElem? (i := 575) (by decide +kernel), List.mem_of_getElem? (i := 796) (by decide +kernel), List.mem_of_getElem? (i := 797) (by decide +kernel)⟩
theorem lw_p44 : lw_okq (⟨"ShadowSpansModel", "layCorners", "()V"⟩, 25) := ⟨⟨by decide +kernel, by decide +kernel⟩, List.mem_of_getElem? (i := 575) (by decide +kernel), List.mem_of_getElem? (i := 800) (by decide +kernel), List.mem_of_getElem? (i := 801) (by decide +kernel)⟩
theorem lw_p45 : lw_okq (⟨"ShadowSpansModel", "layPoints", "()V"⟩, 25) := ⟨⟨by decide +kernel, by decide +kernel⟩, List.mem_of_getElem? (i := 575) (by decide +kernel), List.mem_of_getElem? (i := 804) (by decide +kernel), List.mem_of_getElem? (i := 805) (by decide +kernel)⟩
theorem lw_p46 : lw_okq (⟨"ShadowSpansModel", "nextCorner", "(I)I"⟩, 25) := ⟨⟨by decide +kernel, by decide +kernel⟩, List.mem_of_getElem? (i := 575) (by decide +kernel), List.mem_of_getElem? (i := 808) (by decide +kernel), List.mem_of_getElem? (i := 809) (by decide +kernel)⟩
theorem lw_p47 : lw_okq (⟨"ShadowSpansModel", "turn", "(III)J"⟩, 25) := ⟨⟨by decide +kernel, by decide +kernel⟩, List.mem_of_getElem? (i := 575) (by decide +kernel), List.mem_of_getElem? (i := 812) (by decide +kernel), List.mem_of_getElem? (i := 813) (by decide +kernel)⟩
def lw_privs_3 : List (MethodName × Nat) := [(⟨"ShadowSpansModel", "isReport", "()Z"⟩, 25), (⟨"ShadowSpansModel", "findStation", "(I)I"⟩, 25), (⟨"ShadowSpansModel", "isStation", "(I)Z"⟩, 25), (⟨"ShadowSpansModel", "stationNow", "(II)I"⟩, 25), (⟨"ShadowSpansModel", "bound", "(II)I"⟩, 25), (⟨"ShadowSpansModel", "fit", "()Z"⟩, 25), (⟨"ShadowSpansModel", "all", "()I"⟩, 25), (⟨"ShadowSpansModel", "fitsFor", "(I)Z"⟩, 25), (⟨"ShadowSpansModel", "isHit", "(II)Z"⟩, 25), (⟨"ShadowSpansModel", "letsBoth", "(III)Z"⟩, 25), (⟨"ShadowSpansModel", "wrongNow", "()I"⟩, 25), (⟨"ShadowSpansModel", "kernelNow", "(I)I"⟩, 25), (⟨"ShadowSpansModel", "layCorners", "()V"⟩, 25), (⟨"ShadowSpansModel", "layPoints", "()V"⟩, 25), (⟨"ShadowSpansModel", "nextCorner", "(I)I"⟩, 25), (⟨"ShadowSpansModel", "turn", "(III)J"⟩, 25)]
theorem lw_r3 : ∀ q ∈ lw_privs_3, lw_okq q := List.forall_mem_cons.mpr ⟨lw_p32, List.forall_mem_cons.mpr ⟨lw_p33, List.forall_mem_cons.mpr ⟨lw_p34, List.forall_mem_cons.mpr ⟨lw_p35, List.forall_mem_cons.mpr ⟨lw_p36, List.forall_mem_cons.mpr ⟨lw_p37, List.forall_mem_cons.mpr ⟨lw_p38, List.forall_mem_cons.mpr ⟨lw_p39, List.forall_mem_cons.mpr ⟨lw_p40, List.forall_mem_cons.mpr ⟨lw_p41, List.forall_mem_cons.mpr ⟨lw_p42, List.forall_mem_cons.mpr ⟨lw_p43, List.forall_mem_cons.mpr ⟨lw_p44, List.forall_mem_cons.mpr ⟨lw_p45, List.forall_mem_cons.mpr ⟨lw_p46, List.forall_mem_cons.mpr ⟨lw_p47, fun _ h => absurd h List.not_mem_nil⟩⟩⟩⟩⟩⟩⟩⟩⟩⟩⟩⟩⟩⟩⟩⟩
theorem lw_p48 : lw_okq (⟨"ShadowSpansModel", "square", "(II)J"⟩, 25) := ⟨⟨by decide +kernel, by decide +kernel⟩, List.mem_of_getElem? (i := 575) (by decide +kernel), List.mem_of_getElem? (i := 816) (by decide +kernel), List.mem_of_getElem? (i := 817) (by decide +kernel)⟩
theorem lw_p49 : lw_okq (⟨"ShadowSpansModel", "area", "()J"⟩, 25) := ⟨⟨by decide +kernel, by decide +kernel⟩, List.mem_of_getElem? (i := 575) (by decide +kernel), List.mem_of_getElem? (i := 820) (by decide +kernel), List.mem_of_getElem? (i := 821) (by decide +kernel)⟩
theorem lw_p50 : lw_okq (⟨"ShadowSpansModel", "longest", "()J"⟩, 25) := ⟨⟨by decide +kernel, by decide +kernel⟩, List.mem_of_getElem? (i := 575) (by decide +kernel), List.mem_of_getElem? (i := 824) (by decide +kernel), List.mem_of_getElem? (i := 825) (by decide +kernel)⟩
theorem lw_p51 : lw_okq (⟨"ShadowSpansModel", "wide", "()J"⟩, 25) := ⟨⟨by decide +kernel, by decide +kernel⟩, List.mem_of_getElem? (i := 575) (by decide +kernel), List.mem_of_getElem? (i := 828) (by decide +kernel), List.mem_of_getElem? (i := 829) (by decide +kernel)⟩
theorem lw_p52 : lw_okq (⟨"ShadowSpansModel", "widthOn", "(I)J"⟩, 25) := ⟨⟨by decide +kernel, by decide +kernel⟩, List.mem_of_getElem? (i := 575) (by decide +kernel), List.mem_of_getElem? (i := 832) (by decide +kernel), List.mem_of_getElem? (i := 833) (by decide +kernel)⟩
theorem lw_p53 : lw_okq (⟨"ShadowSpansModel", "cornerNow", "(II)I"⟩, 25) := ⟨⟨by decide +kernel, by decide +kernel⟩, List.mem_of_getElem? (i := 575) (by decide +kernel), List.mem_of_getElem? (i := 840) (by decide +kernel), List.mem_of_getElem? (i := 841) (by decide +kernel)⟩
theorem lw_p54 : lw_okq (⟨"ShadowSpansModel", "heldNow", "(III)I"⟩, 25) := ⟨⟨by decide +kernel, by decide +kernel⟩, List.mem_of_getElem? (i := 575) (by decide +kernel), List.mem_of_getElem? (i := 851) (by decide +kernel), List.mem_of_getElem? (i := 852) (by decide +kernel)⟩
theorem lw_p55 : lw_okq (⟨"ShadowSpansModel", "layHeld", "(II)V"⟩, 25) := ⟨⟨by decide +kernel, by decide +kernel⟩, List.mem_of_getElem? (i := 575) (by decide +kernel), List.mem_of_getElem? (i := 855) (by decide +kernel), List.mem_of_getElem? (i := 856) (by decide +kernel)⟩
theorem lw_p56 : lw_okq (⟨"ShadowSpansModel", "begins", "()V"⟩, 25) := ⟨⟨by decide +kernel, by decide +kernel⟩, List.mem_of_getElem? (i := 575) (by decide +kernel), List.mem_of_getElem? (i := 859) (by decide +kernel), List.mem_of_getElem? (i := 860) (by decide +kernel)⟩
theorem lw_p57 : lw_okq (⟨"ShadowSpansModel", "look", "(JJZ)V"⟩, 25) := ⟨⟨by decide +kernel, by decide +kernel⟩, List.mem_of_getElem? (i := 575) (by decide +kernel), List.mem_of_getElem? (i := 863) (by decide +kernel), List.mem_of_getElem? (i := 864) (by decide +kernel)⟩
theorem lw_p58 : lw_okq (⟨"ShadowSpansModel", "told", "(I)I"⟩, 25) := ⟨⟨by decide +kernel, by decide +kernel⟩, List.mem_of_getElem? (i := 575) (by decide +kernel), List.mem_of_getElem? (i := 867) (by decide +kernel), List.mem_of_getElem? (i := 868) (by decide +kernel)⟩
theorem lw_p59 : lw_okq (⟨"ShadowSpansModel", "canReach", "()Z"⟩, 25) := ⟨⟨by decide +kernel, by decide +kernel⟩, List.mem_of_getElem? (i := 575) (by decide +kernel), List.mem_of_getElem? (i := 879) (by decide +kernel), List.mem_of_getElem? (i := 880) (by decide +kernel)⟩
theorem lw_p60 : lw_okq (⟨"ShadowSpansModel", "hits", "()I"⟩, 25) := ⟨⟨by decide +kernel, by decide +kernel⟩, List.mem_of_getElem? (i := 575) (by decide +kernel), List.mem_of_getElem? (i := 883) (by decide +kernel), List.mem_of_getElem? (i := 884) (by decide +kernel)⟩
theorem lw_p61 : lw_okq (⟨"ShadowSpansModel", "reachNow", "(III)I"⟩, 25) := ⟨⟨by decide +kernel, by decide +kernel⟩, List.mem_of_getElem? (i := 575) (by decide +kernel), List.mem_of_getElem? (i := 887) (by decide +kernel), List.mem_of_getElem? (i := 888) (by decide +kernel)⟩
theorem lw_p62 : lw_okq (⟨"ShadowSpansModel", "isOut", "(I)Z"⟩, 25) := ⟨⟨by decide +kernel, by decide +kernel⟩, List.mem_of_getElem? (i := 575) (by decide +kernel), List.mem_of_getElem? (i := 891) (by decide +kernel), List.mem_of_getElem? (i := 892) (by decide +kernel)⟩
theorem lw_p63 : lw_okq (⟨"ShadowSpansModel", "isBarred", "(I)Z"⟩, 25) := ⟨⟨by decide +kernel, by decide +kernel⟩, List.mem_of_getElem? (i := 575) (by decide +kernel), List.mem_of_getElem? (i := 895) (by decide +kernel), List.mem_of_getElem? (i := 896) (by decide +kernel)⟩
def lw_privs_4 : List (MethodName × Nat) := [(⟨"ShadowSpansModel", "square", "(II)J"⟩, 25), (⟨"ShadowSpansModel", "area", "()J"⟩, 25), (⟨"ShadowSpansModel", "longest", "()J"⟩, 25), (⟨"ShadowSpansModel", "wide", "()J"⟩, 25), (⟨"ShadowSpansModel", "widthOn", "(I)J"⟩, 25), (⟨"ShadowSpansModel", "cornerNow", "(II)I"⟩, 25), (⟨"ShadowSpansModel", "heldNow", "(III)I"⟩, 25), (⟨"ShadowSpansModel", "layHeld", "(II)V"⟩, 25), (⟨"ShadowSpansModel", "begins", "()V"⟩, 25), (⟨"ShadowSpansModel", "look", "(JJZ)V"⟩, 25), (⟨"ShadowSpansModel", "told", "(I)I"⟩, 25), (⟨"ShadowSpansModel", "canReach", "()Z"⟩, 25), (⟨"ShadowSpansModel", "hits", "()I"⟩, 25), (⟨"ShadowSpansModel", "reachNow", "(III)I"⟩, 25), (⟨"ShadowSpansModel", "isOut", "(I)Z"⟩, 25), (⟨"ShadowSpansModel", "isBarred", "(I)Z"⟩, 25)]
theorem lw_r4 : ∀ q ∈ lw_privs_4, lw_okq q := List.forall_mem_cons.mpr ⟨lw_p48, List.forall_mem_cons.mpr ⟨lw_p49, List.forall_mem_cons.mpr ⟨lw_p50, List.forall_mem_cons.mpr ⟨lw_p51, List.forall_mem_cons.mpr ⟨lw_p52, List.forall_mem_cons.mpr ⟨lw_p53, List.forall_mem_cons.mpr ⟨lw_p54, List.forall_mem_cons.mpr ⟨lw_p55, List.forall_mem_cons.mpr ⟨lw_p56, List.forall_mem_cons.mpr ⟨lw_p57, List.forall_mem_cons.mpr ⟨lw_p58, List.forall_mem_cons.mpr ⟨lw_p59, List.forall_mem_cons.mpr ⟨lw_p60, List.forall_mem_cons.mpr ⟨lw_p61, List.forall_mem_cons.mpr ⟨lw_p62, List.forall_mem_cons.mpr ⟨lw_p63, fun _ h => absurd h List.not_mem_nil⟩⟩⟩⟩⟩⟩⟩⟩⟩⟩⟩⟩⟩⟩⟩⟩
theorem lw_p64 : lw_okq (⟨"ShadowSpansModel", "leaves", "(I)Z"⟩, 25) := ⟨⟨by decide +kernel, by decide +kernel⟩, List.mem_of_getElem? (i := 575) (by decide +kernel), List.mem_of_getElem? (i := 899) (by decide +kernel), List.mem_of_getElem? (i := 900) (by decide +kernel)⟩
theorem lw_p65 : lw_okq (⟨"ShadowSpansModel", "layReach", "(II)V"⟩, 25) := ⟨⟨by decide +kernel, by decide +kernel⟩, List.mem_of_getElem? (i := 575) (by decide +kernel), List.mem_of_getElem? (i := 903) (by decide +kernel), List.mem_of_getElem? (i := 904) (by decide +kernel)⟩
theorem lw_p66 : lw_okq (⟨"ShadowSpansModel", "sureNow", "(I)I"⟩, 25) := ⟨⟨by decide +kernel, by decide +kernel⟩, List.mem_of_getElem? (i := 575) (by decide +kernel), List.mem_of_getElem? (i := 911) (by decide +kernel), List.mem_of_getElem? (i := 912) (by decide +kernel)⟩
theorem lw_p67 : lw_okq (⟨"ShadowSpansModel", "mostNow", "(I)I"⟩, 25) := ⟨⟨by decide +kernel, by decide +kernel⟩, List.mem_of_getElem? (i := 575) (by decide +kernel), List.mem_of_getElem? (i := 915) (by decide +kernel), List.mem_of_getElem? (i := 916) (by decide +kernel)⟩
theorem lw_p68 : lw_okq (⟨"ShadowSpansModel", "howMany", "(I)I"⟩, 25) := ⟨⟨by decide +kernel, by decide +kernel⟩, List.mem_of_getElem? (i := 575) (by decide +kernel), List.mem_of_getElem? (i := 923) (by decide +kernel), List.mem_of_getElem? (i := 924) (by decide +kernel)⟩
theorem lw_p69 : lw_okq (⟨"ShadowSpansModel", "mix", "(J)V"⟩, 25) := ⟨⟨by decide +kernel, by decide +kernel⟩, List.mem_of_getElem? (i := 575) (by decide +kernel), List.mem_of_getElem? (i := 932) (by decide +kernel), List.mem_of_getElem? (i := 933) (by decide +kernel)⟩
theorem lw_p70 : lw_okq (⟨"ShadowSpansModel", "mixKernel", "()V"⟩, 25) := ⟨⟨by decide +kernel, by decide +kernel⟩, List.mem_of_getElem? (i := 575) (by decide +kernel), List.mem_of_getElem? (i := 938) (by decide +kernel), List.mem_of_getElem? (i := 939) (by decide +kernel)⟩
theorem lw_p71 : lw_okq (⟨"ShadowSpansModel", "mixReach", "()V"⟩, 25) := ⟨⟨by decide +kernel, by decide +kernel⟩, List.mem_of_getElem? (i := 575) (by decide +kernel), List.mem_of_getElem? (i := 942) (by decide +kernel), List.mem_of_getElem? (i := 943) (by decide +kernel)⟩
def lw_privs_5 : List (MethodName × Nat) := [(⟨"ShadowSpansModel", "leaves", "(I)Z"⟩, 25), (⟨"ShadowSpansModel", "layReach", "(II)V"⟩, 25), (⟨"ShadowSpansModel", "sureNow", "(I)I"⟩, 25), (⟨"ShadowSpansModel", "mostNow", "(I)I"⟩, 25), (⟨"ShadowSpansModel", "howMany", "(I)I"⟩, 25), (⟨"ShadowSpansModel", "mix", "(J)V"⟩, 25), (⟨"ShadowSpansModel", "mixKernel", "()V"⟩, 25), (⟨"ShadowSpansModel", "mixReach", "()V"⟩, 25)]
theorem lw_r5 : ∀ q ∈ lw_privs_5, lw_okq q := List.forall_mem_cons.mpr ⟨lw_p64, List.forall_mem_cons.mpr ⟨lw_p65, List.forall_mem_cons.mpr ⟨lw_p66, List.forall_mem_cons.mpr ⟨lw_p67, List.forall_mem_cons.mpr ⟨lw_p68, List.forall_mem_cons.mpr ⟨lw_p69, List.forall_mem_cons.mpr ⟨lw_p70, List.forall_mem_cons.mpr ⟨lw_p71, fun _ h => absurd h List.not_mem_nil⟩⟩⟩⟩⟩⟩⟩⟩
def lw_privs : List (MethodName × Nat) := lw_privs_1 ++ (lw_privs_2 ++ (lw_privs_3 ++ (lw_privs_4 ++ (lw_privs_5))))
def lw_tbl : List Cond := k2_sels lw_privs ++ tables_1
theorem lw_privs_ok : ∀ q ∈ lw_privs, lw_okq q := by
  show ∀ q ∈ lw_privs_1 ++ (lw_privs_2 ++ (lw_privs_3 ++ (lw_privs_4 ++ (lw_privs_5)))), lw_okq q
  exact List.forall_mem_append.mpr ⟨lw_r1, List.forall_mem_append.mpr ⟨lw_r2, List.forall_mem_append.mpr ⟨lw_r3, List.forall_mem_append.mpr ⟨lw_r4, lw_r5⟩⟩⟩⟩
-- ===== end of PART A; then your names; then what follows =====
end
section
/-! ===== BEGIN printed: names, fields, word lists, decode rows ===== -/
def RX0 : String := "ShadowSpans$Bound"
def TX0 : u_T := fun k => match k with
  | 0 => ("ShadowSpans$Bound", "free", "Z", false)
  | 1 => ("ShadowSpans$Bound", "top", "J", false)
  | _ => ("ShadowSpans$Bound", "bottom", "J", false)
def tyX0 : Nat → FieldType := fun k => match k with
  | 0 => .boolean
  | 1 => .long
  | _ => .long
abbrev wsX00 : List Cond := u_ws RX0 TX0 3
theorem nmX0 : ∀ a, a < 3 → ∀ b, b < 3 → a ≠ b → (TX0 a).2.1 ≠ (TX0 b).2.1 := by decide +kernel
theorem tyX0_ok : ∀ k, k < 3 → parseFieldDescriptor (TX0 k).2.2.1 = some (tyX0 k) := by decide +kernel
abbrev cX0_init : ByteArray := prog_2_method_1_code
def yX0_init : MethodName := ⟨RX0, "<init>", "()V"⟩
abbrev cX0_release : ByteArray := prog_2_method_2_code
def yX0_release : MethodName := ⟨RX0, "release", "()V"⟩
abbrev cX0_raise : ByteArray := prog_2_method_3_code
def yX0_raise : MethodName := ⟨RX0, "raise", "(JJ)V"⟩
abbrev cX0_lower : ByteArray := prog_2_method_4_code
def yX0_lower : MethodName := ⟨RX0, "lower", "(JJ)V"⟩
abbrev cX0_lowestTop : ByteArray := prog_2_method_5_code
def yX0_lowestTop : MethodName := ⟨RX0, "lowestTop", "()I"⟩
abbrev cX0_lowestBottom : ByteArray := prog_2_method_6_code
def yX0_lowestBottom : MethodName := ⟨RX0, "lowestBottom", "()I"⟩
abbrev cX0_put : ByteArray := prog_2_method_7_code
def yX0_put : MethodName := ⟨RX0, "put", "(JJ)V"⟩
abbrev cX0_divisor : ByteArray := prog_2_method_8_code
def yX0_divisor : MethodName := ⟨RX0, "divisor", "()J"⟩
def RX1 : String := "ShadowSpans$Hull"
def TX1 : u_T := fun k => match k with
  | 0 => ("ShadowSpans$Hull", "xs", "[I", true)
  | 1 => ("ShadowSpans$Hull", "hs", "[I", true)
  | 2 => ("ShadowSpans$Hull", "points", "I", false)
  | 3 => ("ShadowSpans$Hull", "cornerXs", "[I", true)
  | 4 => ("ShadowSpans$Hull", "cornerHs", "[I", true)
  | _ => ("ShadowSpans$Hull", "size", "I", false)
def tyX1 : Nat → FieldType := fun k => match k with
  | 0 => .array .int
  | 1 => .array .int
  | 2 => .int
  | 3 => .array .int
  | 4 => .array .int
  | _ => .int
abbrev wsX10 : List Cond := u_ws RX1 TX1 6
theorem nmX1 : ∀ a, a < 6 → ∀ b, b < 6 → a ≠ b → (TX1 a).2.1 ≠ (TX1 b).2.1 := by decide +kernel
theorem tyX1_ok : ∀ k, k < 6 → parseFieldDescriptor (TX1 k).2.2.1 = some (tyX1 k) := by decide +kernel
abbrev cX1_init : ByteArray := prog_3_method_1_code
def yX1_init : MethodName := ⟨RX1, "<init>", "()V"⟩
abbrev cX1_wrap : ByteArray := prog_3_method_2_code
def yX1_wrap : MethodName := ⟨RX1, "wrap", "(LShadowSpans$Roster;)V"⟩
abbrev cX1_doubleArea : ByteArray := prog_3_method_3_code
def yX1_doubleArea : MethodName := ⟨RX1, "doubleArea", "()I"⟩
abbrev cX1_longestSquare : ByteArray := prog_3_method_4_code
def yX1_longestSquare : MethodName := ⟨RX1, "longestSquare", "()I"⟩
abbrev cX1_leastWidthSquare : ByteArray := prog_3_method_5_code
def yX1_leastWidthSquare : MethodName := ⟨RX1, "leastWidthSquare", "()I"⟩
abbrev cX1_collect : ByteArray := prog_3_method_6_code
def yX1_collect : MethodName := ⟨RX1, "collect", "(LShadowSpans$Roster;)V"⟩
abbrev cX1_addPoint : ByteArray := prog_3_method_7_code
def yX1_addPoint : MethodName := ⟨RX1, "addPoint", "(II)V"⟩
abbrev cX1_leftmost : ByteArray := prog_3_method_8_code
def yX1_leftmost : MethodName := ⟨RX1, "leftmost", "()I"⟩
abbrev cX1_next : ByteArray := prog_3_method_9_code
def yX1_next : MethodName := ⟨RX1, "next", "(I)I"⟩
abbrev cX1_isBeyond : ByteArray := prog_3_method_10_code
def yX1_isBeyond : MethodName := ⟨RX1, "isBeyond", "(III)Z"⟩
abbrev cX1_after : ByteArray := prog_3_method_11_code
def yX1_after : MethodName := ⟨RX1, "after", "(I)I"⟩
abbrev cX1_widthSquare : ByteArray := prog_3_method_12_code
def yX1_widthSquare : MethodName := ⟨RX1, "widthSquare", "(I)J"⟩
abbrev cX1_square : ByteArray := prog_3_method_13_code
def yX1_square : MethodName := ⟨RX1, "square", "(II)I"⟩
def RX2 : String := "ShadowSpans$Reader"
def TX2 : u_T := fun k => match k with
  | 0 => ("ShadowSpans$Reader", "numbers", "[I", true)
  | 1 => ("ShadowSpans$Reader", "stage", "I", false)
  | 2 => ("ShadowSpans$Reader", "figures", "I", false)
  | _ => ("ShadowSpans$Reader", "below", "Z", false)
def tyX2 : Nat → FieldType := fun k => match k with
  | 0 => .array .int
  | 1 => .int
  | 2 => .int
  | _ => .boolean
abbrev wsX20 : List Cond := u_ws RX2 TX2 4
theorem nmX2 : ∀ a, a < 4 → ∀ b, b < 4 → a ≠ b → (TX2 a).2.1 ≠ (TX2 b).2.1 := by decide +kernel
theorem tyX2_ok : ∀ k, k < 4 → parseFieldDescriptor (TX2 k).2.2.1 = some (tyX2 k) := by decide +kernel
abbrev cX2_init : ByteArray := prog_4_method_1_code
def yX2_init : MethodName := ⟨RX2, "<init>", "()V"⟩
abbrev cX2_restart : ByteArray := prog_4_method_2_code
def yX2_restart : MethodName := ⟨RX2, "restart", "()V"⟩
abbrev cX2_take : ByteArray := prog_4_method_3_code
def yX2_take : MethodName := ⟨RX2, "take", "(I)Z"⟩
abbrev cX2_isWhole : ByteArray := prog_4_method_4_code
def yX2_isWhole : MethodName := ⟨RX2, "isWhole", "()Z"⟩
abbrev cX2_isMiss : ByteArray := prog_4_method_5_code
def yX2_isMiss : MethodName := ⟨RX2, "isMiss", "()Z"⟩
abbrev cX2_isSound : ByteArray := prog_4_method_6_code
def yX2_isSound : MethodName := ⟨RX2, "isSound", "()Z"⟩
abbrev cX2_number : ByteArray := prog_4_method_7_code
def yX2_number : MethodName := ⟨RX2, "number", "(I)I"⟩
abbrev cX2_enter : ByteArray := prog_4_method_8_code
def yX2_enter : MethodName := ⟨RX2, "enter", "(I)V"⟩
abbrev cX2_takeFigure : ByteArray := prog_4_method_9_code
def yX2_takeFigure : MethodName := ⟨RX2, "takeFigure", "(I)Z"⟩
abbrev cX2_takeMinus : ByteArray := prog_4_method_10_code
def yX2_takeMinus : MethodName := ⟨RX2, "takeMinus", "()Z"⟩
abbrev cX2_takeMark : ByteArray := prog_4_method_11_code
def yX2_takeMark : MethodName := ⟨RX2, "takeMark", "(I)Z"⟩
abbrev cX2_markBehind : ByteArray := prog_4_method_12_code
def yX2_markBehind : MethodName := ⟨RX2, "markBehind", "()I"⟩
abbrev cX2_limit : ByteArray := prog_4_method_13_code
def yX2_limit : MethodName := ⟨RX2, "limit", "()I"⟩
def RX3 : String := "ShadowSpans$Roster"
def TX3 : u_T := fun k => match k with
  | 0 => ("ShadowSpans$Roster", "heights", "[I", true)
  | 1 => ("ShadowSpans$Roster", "missed", "[Z", true)
  | 2 => ("ShadowSpans$Roster", "gones", "[I", true)
  | 3 => ("ShadowSpans$Roster", "backs", "[I", true)
  | 4 => ("ShadowSpans$Roster", "errors", "[I", true)
  | 5 => ("ShadowSpans$Roster", "size", "I", false)
  | _ => ("ShadowSpans$Roster", "pace", "I", false)
def tyX3 : Nat → FieldType := fun k => match k with
  | 0 => .array .int
  | 1 => .array .boolean
  | 2 => .array .int
  | 3 => .array .int
  | 4 => .array .int
  | 5 => .int
  | _ => .int
abbrev wsX30 : List Cond := u_ws RX3 TX3 7
theorem nmX3 : ∀ a, a < 7 → ∀ b, b < 7 → a ≠ b → (TX3 a).2.1 ≠ (TX3 b).2.1 := by decide +kernel
theorem tyX3_ok : ∀ k, k < 7 → parseFieldDescriptor (TX3 k).2.2.1 = some (tyX3 k) := by decide +kernel
abbrev cX3_init : ByteArray := prog_5_method_1_code
def yX3_init : MethodName := ⟨RX3, "<init>", "()V"⟩
abbrev cX3_has : ByteArray := prog_5_method_2_code
def yX3_has : MethodName := ⟨RX3, "has", "(I)Z"⟩
abbrev cX3_isFull : ByteArray := prog_5_method_3_code
def yX3_isFull : MethodName := ⟨RX3, "isFull", "()Z"⟩
abbrev cX3_find : ByteArray := prog_5_method_4_code
def yX3_find : MethodName := ⟨RX3, "find", "(I)I"⟩
abbrev cX3_add : ByteArray := prog_5_method_5_code
def yX3_add : MethodName := ⟨RX3, "add", "(LShadowSpans$Reader;)V"⟩
abbrev cX3_remove : ByteArray := prog_5_method_6_code
def yX3_remove : MethodName := ⟨RX3, "remove", "(I)V"⟩
abbrev cX3_missCount : ByteArray := prog_5_method_7_code
def yX3_missCount : MethodName := ⟨RX3, "missCount", "()I"⟩
abbrev cX3_hasChord : ByteArray := prog_5_method_8_code
def yX3_hasChord : MethodName := ⟨RX3, "hasChord", "()Z"⟩
abbrev cX3_outer : ByteArray := prog_5_method_9_code
def yX3_outer : MethodName := ⟨RX3, "outer", "(II)I"⟩
abbrev cX3_inner : ByteArray := prog_5_method_10_code
def yX3_inner : MethodName := ⟨RX3, "inner", "(II)I"⟩
def RX4 : String := "ShadowSpans$Span"
def TX4 : u_T := fun k => match k with
  | 0 => ("ShadowSpans$Span", "left", "LShadowSpans$Bound;", true)
  | 1 => ("ShadowSpans$Span", "right", "LShadowSpans$Bound;", true)
  | _ => ("ShadowSpans$Span", "out", "Z", false)
def tyX4 : Nat → FieldType := fun k => match k with
  | 0 => .object "ShadowSpans$Bound"
  | 1 => .object "ShadowSpans$Bound"
  | _ => .boolean
abbrev wsX40 : List Cond := u_ws RX4 TX4 3
theorem nmX4 : ∀ a, a < 3 → ∀ b, b < 3 → a ≠ b → (TX4 a).2.1 ≠ (TX4 b).2.1 := by decide +kernel
theorem tyX4_ok : ∀ k, k < 3 → parseFieldDescriptor (TX4 k).2.2.1 = some (tyX4 k) := by decide +kernel
abbrev cX4_init : ByteArray := prog_6_method_1_code
def yX4_init : MethodName := ⟨RX4, "<init>", "()V"⟩
abbrev cX4_measureHeld : ByteArray := prog_6_method_2_code
def yX4_measureHeld : MethodName := ⟨RX4, "measureHeld", "(LShadowSpans$Roster;I)V"⟩
abbrev cX4_measureReached : ByteArray := prog_6_method_3_code
def yX4_measureReached : MethodName := ⟨RX4, "measureReached", "(LShadowSpans$Roster;I)V"⟩
abbrev cX4_tell : ByteArray := prog_6_method_4_code
def yX4_tell : MethodName := ⟨RX4, "tell", "(II)I"⟩
abbrev cX4_ticksDown : ByteArray := prog_6_method_5_code
def yX4_ticksDown : MethodName := ⟨RX4, "ticksDown", "(I)I"⟩
abbrev cX4_ticksUp : ByteArray := prog_6_method_6_code
def yX4_ticksUp : MethodName := ⟨RX4, "ticksUp", "(I)I"⟩
abbrev cX4_isBoundless : ByteArray := prog_6_method_7_code
def yX4_isBoundless : MethodName := ⟨RX4, "isBoundless", "()Z"⟩
abbrev cX4_lengthTop : ByteArray := prog_6_method_8_code
def yX4_lengthTop : MethodName := ⟨RX4, "lengthTop", "()J"⟩
abbrev cX4_lengthBottom : ByteArray := prog_6_method_9_code
def yX4_lengthBottom : MethodName := ⟨RX4, "lengthBottom", "()J"⟩
abbrev cX4_hold : ByteArray := prog_6_method_10_code
def yX4_hold : MethodName := ⟨RX4, "hold", "(LShadowSpans$Roster;IILShadowSpans$Bound;)V"⟩
abbrev cX4_bind : ByteArray := prog_6_method_11_code
def yX4_bind : MethodName := ⟨RX4, "bind", "(LShadowSpans$Roster;IILShadowSpans$Bound;)V"⟩
abbrev cX4_isBarred : ByteArray := prog_6_method_12_code
def yX4_isBarred : MethodName := ⟨RX4, "isBarred", "(LShadowSpans$Roster;I)Z"⟩
abbrev cX4_isBetween : ByteArray := prog_6_method_13_code
def yX4_isBetween : MethodName := ⟨RX4, "isBetween", "(III)Z"⟩
def RX5 : String := "ShadowSpans$Verdict"
def TX5 : u_T := fun k => match k with
  | 0 => ("ShadowSpans$Verdict", "clashes", "[I", true)
  | 1 => ("ShadowSpans$Verdict", "clashCount", "I", false)
  | _ => ("ShadowSpans$Verdict", "culprits", "I", false)
def tyX5 : Nat → FieldType := fun k => match k with
  | 0 => .array .int
  | 1 => .int
  | _ => .int
abbrev wsX50 : List Cond := u_ws RX5 TX5 3
theorem nmX5 : ∀ a, a < 3 → ∀ b, b < 3 → a ≠ b → (TX5 a).2.1 ≠ (TX5 b).2.1 := by decide +kernel
theorem tyX5_ok : ∀ k, k < 3 → parseFieldDescriptor (TX5 k).2.2.1 = some (tyX5 k) := by decide +kernel
abbrev cX5_init : ByteArray := prog_7_method_1_code
def yX5_init : MethodName := ⟨RX5, "<init>", "()V"⟩
abbrev cX5_judge : ByteArray := prog_7_method_2_code
def yX5_judge : MethodName := ⟨RX5, "judge", "(LShadowSpans$Roster;)V"⟩
abbrev cX5_gather : ByteArray := prog_7_method_3_code
def yX5_gather : MethodName := ⟨RX5, "gather", "(LShadowSpans$Roster;II)V"⟩
abbrev cX5_isClash : ByteArray := prog_7_method_4_code
def yX5_isClash : MethodName := ⟨RX5, "isClash", "(LShadowSpans$Roster;III)Z"⟩
abbrev cX5_isDent : ByteArray := prog_7_method_5_code
def yX5_isDent : MethodName := ⟨RX5, "isDent", "(LShadowSpans$Roster;IIII)Z"⟩
abbrev cX5_fewest : ByteArray := prog_7_method_6_code
def yX5_fewest : MethodName := ⟨RX5, "fewest", "(I)I"⟩
abbrev cX5_isCure : ByteArray := prog_7_method_7_code
def yX5_isCure : MethodName := ⟨RX5, "isCure", "(I)Z"⟩
def RX6 : String := "ShadowSpans"
def TX6 : u_T := fun k => match k with
  | 0 => ("ShadowSpans", "letters", "[I", true)
  | 1 => ("ShadowSpans", "reader", "LShadowSpans$Reader;", true)
  | 2 => ("ShadowSpans", "roster", "LShadowSpans$Roster;", true)
  | 3 => ("ShadowSpans", "verdict", "LShadowSpans$Verdict;", true)
  | 4 => ("ShadowSpans", "hull", "LShadowSpans$Hull;", true)
  | 5 => ("ShadowSpans", "span", "LShadowSpans$Span;", true)
  | 6 => ("ShadowSpans", "pageLength", "I", false)
  | 7 => ("ShadowSpans", "reportsEver", "I", false)
  | _ => ("ShadowSpans", "wentEver", "I", false)
def tyX6 : Nat → FieldType := fun k => match k with
  | 0 => .array .int
  | 1 => .object "ShadowSpans$Reader"
  | 2 => .object "ShadowSpans$Roster"
  | 3 => .object "ShadowSpans$Verdict"
  | 4 => .object "ShadowSpans$Hull"
  | 5 => .object "ShadowSpans$Span"
  | 6 => .int
  | 7 => .int
  | _ => .int
abbrev wsX60 : List Cond := u_ws RX6 TX6 9
theorem nmX6 : ∀ a, a < 9 → ∀ b, b < 9 → a ≠ b → (TX6 a).2.1 ≠ (TX6 b).2.1 := by decide +kernel
theorem tyX6_ok : ∀ k, k < 9 → parseFieldDescriptor (TX6 k).2.2.1 = some (tyX6 k) := by decide +kernel
abbrev cX6_init : ByteArray := prog_1_method_1_code
def yX6_init : MethodName := ⟨RX6, "<init>", "()V"⟩
abbrev cX6_letter : ByteArray := prog_1_method_2_code
def yX6_letter : MethodName := ⟨RX6, "letter", "(I)I"⟩
abbrev cX6_blank : ByteArray := prog_1_method_3_code
def yX6_blank : MethodName := ⟨RX6, "blank", "()I"⟩
abbrev cX6_fault : ByteArray := prog_1_method_4_code
def yX6_fault : MethodName := ⟨RX6, "fault", "()I"⟩
abbrev cX6_report : ByteArray := prog_1_method_5_code
def yX6_report : MethodName := ⟨RX6, "report", "()I"⟩
abbrev cX6_drop : ByteArray := prog_1_method_6_code
def yX6_drop : MethodName := ⟨RX6, "drop", "(I)I"⟩
abbrev cX6_error : ByteArray := prog_1_method_7_code
def yX6_error : MethodName := ⟨RX6, "error", "(II)I"⟩
abbrev cX6_speed : ByteArray := prog_1_method_8_code
def yX6_speed : MethodName := ⟨RX6, "speed", "(I)I"⟩
abbrev cX6_station : ByteArray := prog_1_method_9_code
def yX6_station : MethodName := ⟨RX6, "station", "(II)I"⟩
abbrev cX6_at : ByteArray := prog_1_method_10_code
def yX6_at : MethodName := ⟨RX6, "at", "(I)I"⟩
abbrev cX6_fits : ByteArray := prog_1_method_11_code
def yX6_fits : MethodName := ⟨RX6, "fits", "()I"⟩
abbrev cX6_wrong : ByteArray := prog_1_method_12_code
def yX6_wrong : MethodName := ⟨RX6, "wrong", "()I"⟩
abbrev cX6_kernel : ByteArray := prog_1_method_13_code
def yX6_kernel : MethodName := ⟨RX6, "kernel", "(I)I"⟩
abbrev cX6_corner : ByteArray := prog_1_method_14_code
def yX6_corner : MethodName := ⟨RX6, "corner", "(II)I"⟩
abbrev cX6_holds : ByteArray := prog_1_method_15_code
def yX6_holds : MethodName := ⟨RX6, "holds", "(III)I"⟩
abbrev cX6_reach : ByteArray := prog_1_method_16_code
def yX6_reach : MethodName := ⟨RX6, "reach", "(III)I"⟩
abbrev cX6_lasts : ByteArray := prog_1_method_17_code
def yX6_lasts : MethodName := ⟨RX6, "lasts", "(II)I"⟩
abbrev cX6_count : ByteArray := prog_1_method_18_code
def yX6_count : MethodName := ⟨RX6, "count", "(I)I"⟩
abbrev cX6_digest : ByteArray := prog_1_method_19_code
def yX6_digest : MethodName := ⟨RX6, "digest", "()J"⟩
abbrev cX6_mixKernel : ByteArray := prog_1_method_20_code
def yX6_mixKernel : MethodName := ⟨RX6, "mixKernel", "(J)J"⟩
abbrev cX6_mixReach : ByteArray := prog_1_method_21_code
def yX6_mixReach : MethodName := ⟨RX6, "mixReach", "(J)J"⟩
abbrev cX6_readPage : ByteArray := prog_1_method_22_code
def yX6_readPage : MethodName := ⟨RX6, "readPage", "()I"⟩
abbrev cX6_chordFact : ByteArray := prog_1_method_23_code
def yX6_chordFact : MethodName := ⟨RX6, "chordFact", "(II)I"⟩
abbrev cX6_allFit : ByteArray := prog_1_method_24_code
def yX6_allFit : MethodName := ⟨RX6, "allFit", "()Z"⟩
abbrev cX6_settle : ByteArray := prog_1_method_25_code
def yX6_settle : MethodName := ⟨RX6, "settle", "()V"⟩
abbrev cX6_isHeight : ByteArray := prog_1_method_26_code
def yX6_isHeight : MethodName := ⟨RX6, "isHeight", "(I)Z"⟩
abbrev cX6_isBit : ByteArray := prog_1_method_27_code
def yX6_isBit : MethodName := ⟨RX6, "isBit", "(I)Z"⟩
abbrev cX6_isBackGreat : ByteArray := prog_1_method_28_code
def yX6_isBackGreat : MethodName := ⟨RX6, "isBackGreat", "(III)Z"⟩
def RX7 : String := "ShadowSpansModel"
def TX7 : u_T := fun k => match k with
  | 0 => ("ShadowSpansModel", "pageLength", "I", false)
  | 1 => ("ShadowSpansModel", "page", "[I", true)
  | 2 => ("ShadowSpansModel", "stations", "I", false)
  | 3 => ("ShadowSpansModel", "heightOf", "[I", true)
  | 4 => ("ShadowSpansModel", "isMissed", "[Z", true)
  | 5 => ("ShadowSpansModel", "goneOf", "[I", true)
  | 6 => ("ShadowSpansModel", "backOf", "[I", true)
  | 7 => ("ShadowSpansModel", "errorOf", "[I", true)
  | 8 => ("ShadowSpansModel", "speedNow", "I", false)
  | 9 => ("ShadowSpansModel", "cameEver", "I", false)
  | 10 => ("ShadowSpansModel", "wentEver", "I", false)
  | 11 => ("ShadowSpansModel", "part", "I", false)
  | 12 => ("ShadowSpansModel", "numbers", "[I", true)
  | 13 => ("ShadowSpansModel", "figures", "I", false)
  | 14 => ("ShadowSpansModel", "isBelow", "Z", false)
  | 15 => ("ShadowSpansModel", "isMiss", "Z", false)
  | 16 => ("ShadowSpansModel", "points", "I", false)
  | 17 => ("ShadowSpansModel", "xs", "[J", true)
  | 18 => ("ShadowSpansModel", "hs", "[J", true)
  | 19 => ("ShadowSpansModel", "corners", "I", false)
  | 20 => ("ShadowSpansModel", "cornerAt", "[I", true)
  | 21 => ("ShadowSpansModel", "isAny", "Z", false)
  | 22 => ("ShadowSpansModel", "above", "J", false)
  | 23 => ("ShadowSpansModel", "below", "J", false)
  | _ => ("ShadowSpansModel", "h", "J", false)
def tyX7 : Nat → FieldType := fun k => match k with
  | 0 => .int
  | 1 => .array .int
  | 2 => .int
  | 3 => .array .int
  | 4 => .array .boolean
  | 5 => .array .int
  | 6 => .array .int
  | 7 => .array .int
  | 8 => .int
  | 9 => .int
  | 10 => .int
  | 11 => .int
  | 12 => .array .int
  | 13 => .int
  | 14 => .boolean
  | 15 => .boolean
  | 16 => .int
  | 17 => .array .long
  | 18 => .array .long
  | 19 => .int
  | 20 => .array .int
  | 21 => .boolean
  | 22 => .long
  | 23 => .long
  | _ => .long
abbrev wsX70 : List Cond := u_ws RX7 TX7 25
theorem nmX7 : ∀ a, a < 25 → ∀ b, b < 25 → a ≠ b → (TX7 a).2.1 ≠ (TX7 b).2.1 := by decide +kernel
theorem tyX7_ok : ∀ k, k < 25 → parseFieldDescriptor (TX7 k).2.2.1 = some (tyX7 k) := by decide +kernel
abbrev cX7_init : ByteArray := prog_9_method_1_code
def yX7_init : MethodName := ⟨RX7, "<init>", "()V"⟩
abbrev cX7_within : ByteArray := prog_9_method_3_code
def yX7_within : MethodName := ⟨RX7, "within", "(JJJ)Z"⟩
abbrev cX7_letter : ByteArray := prog_9_method_4_code
def yX7_letter : MethodName := ⟨RX7, "letter", "(I)I"⟩
abbrev cX7_blank : ByteArray := prog_9_method_5_code
def yX7_blank : MethodName := ⟨RX7, "blank", "()I"⟩
abbrev cX7_mostOf : ByteArray := prog_9_method_6_code
def yX7_mostOf : MethodName := ⟨RX7, "mostOf", "()I"⟩
abbrev cX7_takesFigure : ByteArray := prog_9_method_7_code
def yX7_takesFigure : MethodName := ⟨RX7, "takesFigure", "(I)Z"⟩
abbrev cX7_goesTo : ByteArray := prog_9_method_8_code
def yX7_goesTo : MethodName := ⟨RX7, "goesTo", "(I)Z"⟩
abbrev cX7_takes : ByteArray := prog_9_method_9_code
def yX7_takes : MethodName := ⟨RX7, "takes", "(I)Z"⟩
abbrev cX7_goAlong : ByteArray := prog_9_method_10_code
def yX7_goAlong : MethodName := ⟨RX7, "goAlong", "()I"⟩
abbrev cX7_fault : ByteArray := prog_9_method_11_code
def yX7_fault : MethodName := ⟨RX7, "fault", "()I"⟩
abbrev cX7_isReport : ByteArray := prog_9_method_12_code
def yX7_isReport : MethodName := ⟨RX7, "isReport", "()Z"⟩
abbrev cX7_findStation : ByteArray := prog_9_method_13_code
def yX7_findStation : MethodName := ⟨RX7, "findStation", "(I)I"⟩
abbrev cX7_report : ByteArray := prog_9_method_14_code
def yX7_report : MethodName := ⟨RX7, "report", "()I"⟩
abbrev cX7_isStation : ByteArray := prog_9_method_15_code
def yX7_isStation : MethodName := ⟨RX7, "isStation", "(I)Z"⟩
abbrev cX7_drop : ByteArray := prog_9_method_16_code
def yX7_drop : MethodName := ⟨RX7, "drop", "(I)I"⟩
abbrev cX7_error : ByteArray := prog_9_method_17_code
def yX7_error : MethodName := ⟨RX7, "error", "(II)I"⟩
abbrev cX7_speed : ByteArray := prog_9_method_18_code
def yX7_speed : MethodName := ⟨RX7, "speed", "(I)I"⟩
abbrev cX7_bound : ByteArray := prog_9_method_19_code
def yX7_bound : MethodName := ⟨RX7, "bound", "(II)I"⟩
abbrev cX7_stationNow : ByteArray := prog_9_method_20_code
def yX7_stationNow : MethodName := ⟨RX7, "stationNow", "(II)I"⟩
abbrev cX7_station : ByteArray := prog_9_method_21_code
def yX7_station : MethodName := ⟨RX7, "station", "(II)I"⟩
abbrev cX7_at : ByteArray := prog_9_method_22_code
def yX7_at : MethodName := ⟨RX7, "at", "(I)I"⟩
abbrev cX7_has : ByteArray := prog_9_method_23_code
def yX7_has : MethodName := ⟨RX7, "has", "(II)Z"⟩
abbrev cX7_isHit : ByteArray := prog_9_method_24_code
def yX7_isHit : MethodName := ⟨RX7, "isHit", "(II)Z"⟩
abbrev cX7_isBetween : ByteArray := prog_9_method_25_code
def yX7_isBetween : MethodName := ⟨RX7, "isBetween", "(III)Z"⟩
abbrev cX7_letsBoth : ByteArray := prog_9_method_26_code
def yX7_letsBoth : MethodName := ⟨RX7, "letsBoth", "(III)Z"⟩
abbrev cX7_fitsFor : ByteArray := prog_9_method_27_code
def yX7_fitsFor : MethodName := ⟨RX7, "fitsFor", "(I)Z"⟩
abbrev cX7_all : ByteArray := prog_9_method_28_code
def yX7_all : MethodName := ⟨RX7, "all", "()I"⟩
abbrev cX7_fit : ByteArray := prog_9_method_29_code
def yX7_fit : MethodName := ⟨RX7, "fit", "()Z"⟩
abbrev cX7_fits : ByteArray := prog_9_method_30_code
def yX7_fits : MethodName := ⟨RX7, "fits", "()I"⟩
abbrev cX7_many : ByteArray := prog_9_method_31_code
def yX7_many : MethodName := ⟨RX7, "many", "(I)I"⟩
abbrev cX7_wrongNow : ByteArray := prog_9_method_32_code
def yX7_wrongNow : MethodName := ⟨RX7, "wrongNow", "()I"⟩
abbrev cX7_wrong : ByteArray := prog_9_method_33_code
def yX7_wrong : MethodName := ⟨RX7, "wrong", "()I"⟩
abbrev cX7_layPoints : ByteArray := prog_9_method_34_code
def yX7_layPoints : MethodName := ⟨RX7, "layPoints", "()V"⟩
abbrev cX7_turn : ByteArray := prog_9_method_35_code
def yX7_turn : MethodName := ⟨RX7, "turn", "(III)J"⟩
abbrev cX7_square : ByteArray := prog_9_method_36_code
def yX7_square : MethodName := ⟨RX7, "square", "(II)J"⟩
abbrev cX7_nextCorner : ByteArray := prog_9_method_37_code
def yX7_nextCorner : MethodName := ⟨RX7, "nextCorner", "(I)I"⟩
abbrev cX7_layCorners : ByteArray := prog_9_method_38_code
def yX7_layCorners : MethodName := ⟨RX7, "layCorners", "()V"⟩
abbrev cX7_area : ByteArray := prog_9_method_39_code
def yX7_area : MethodName := ⟨RX7, "area", "()J"⟩
abbrev cX7_longest : ByteArray := prog_9_method_40_code
def yX7_longest : MethodName := ⟨RX7, "longest", "()J"⟩
abbrev cX7_widthOn : ByteArray := prog_9_method_41_code
def yX7_widthOn : MethodName := ⟨RX7, "widthOn", "(I)J"⟩
abbrev cX7_wide : ByteArray := prog_9_method_42_code
def yX7_wide : MethodName := ⟨RX7, "wide", "()J"⟩
abbrev cX7_kernelNow : ByteArray := prog_9_method_43_code
def yX7_kernelNow : MethodName := ⟨RX7, "kernelNow", "(I)I"⟩
abbrev cX7_kernel : ByteArray := prog_9_method_44_code
def yX7_kernel : MethodName := ⟨RX7, "kernel", "(I)I"⟩
abbrev cX7_cornerNow : ByteArray := prog_9_method_45_code
def yX7_cornerNow : MethodName := ⟨RX7, "cornerNow", "(II)I"⟩
abbrev cX7_corner : ByteArray := prog_9_method_46_code
def yX7_corner : MethodName := ⟨RX7, "corner", "(II)I"⟩
abbrev cX7_begins : ByteArray := prog_9_method_47_code
def yX7_begins : MethodName := ⟨RX7, "begins", "()V"⟩
abbrev cX7_common : ByteArray := prog_9_method_48_code
def yX7_common : MethodName := ⟨RX7, "common", "(JJ)J"⟩
abbrev cX7_look : ByteArray := prog_9_method_49_code
def yX7_look : MethodName := ⟨RX7, "look", "(JJZ)V"⟩
abbrev cX7_told : ByteArray := prog_9_method_50_code
def yX7_told : MethodName := ⟨RX7, "told", "(I)I"⟩
abbrev cX7_layHeld : ByteArray := prog_9_method_51_code
def yX7_layHeld : MethodName := ⟨RX7, "layHeld", "(II)V"⟩
abbrev cX7_heldNow : ByteArray := prog_9_method_52_code
def yX7_heldNow : MethodName := ⟨RX7, "heldNow", "(III)I"⟩
abbrev cX7_isAsk : ByteArray := prog_9_method_53_code
def yX7_isAsk : MethodName := ⟨RX7, "isAsk", "(III)Z"⟩
abbrev cX7_holds : ByteArray := prog_9_method_54_code
def yX7_holds : MethodName := ⟨RX7, "holds", "(III)I"⟩
abbrev cX7_isBarred : ByteArray := prog_9_method_55_code
def yX7_isBarred : MethodName := ⟨RX7, "isBarred", "(I)Z"⟩
abbrev cX7_layReach : ByteArray := prog_9_method_56_code
def yX7_layReach : MethodName := ⟨RX7, "layReach", "(II)V"⟩
abbrev cX7_leaves : ByteArray := prog_9_method_57_code
def yX7_leaves : MethodName := ⟨RX7, "leaves", "(I)Z"⟩
abbrev cX7_isOut : ByteArray := prog_9_method_58_code
def yX7_isOut : MethodName := ⟨RX7, "isOut", "(I)Z"⟩
abbrev cX7_reachNow : ByteArray := prog_9_method_59_code
def yX7_reachNow : MethodName := ⟨RX7, "reachNow", "(III)I"⟩
abbrev cX7_hits : ByteArray := prog_9_method_60_code
def yX7_hits : MethodName := ⟨RX7, "hits", "()I"⟩
abbrev cX7_canReach : ByteArray := prog_9_method_61_code
def yX7_canReach : MethodName := ⟨RX7, "canReach", "()Z"⟩
abbrev cX7_reach : ByteArray := prog_9_method_62_code
def yX7_reach : MethodName := ⟨RX7, "reach", "(III)I"⟩
abbrev cX7_sureNow : ByteArray := prog_9_method_63_code
def yX7_sureNow : MethodName := ⟨RX7, "sureNow", "(I)I"⟩
abbrev cX7_mostNow : ByteArray := prog_9_method_64_code
def yX7_mostNow : MethodName := ⟨RX7, "mostNow", "(I)I"⟩
abbrev cX7_lasts : ByteArray := prog_9_method_65_code
def yX7_lasts : MethodName := ⟨RX7, "lasts", "(II)I"⟩
abbrev cX7_howMany : ByteArray := prog_9_method_66_code
def yX7_howMany : MethodName := ⟨RX7, "howMany", "(I)I"⟩
abbrev cX7_count : ByteArray := prog_9_method_67_code
def yX7_count : MethodName := ⟨RX7, "count", "(I)I"⟩
abbrev cX7_mix : ByteArray := prog_9_method_68_code
def yX7_mix : MethodName := ⟨RX7, "mix", "(J)V"⟩
abbrev cX7_mixKernel : ByteArray := prog_9_method_69_code
def yX7_mixKernel : MethodName := ⟨RX7, "mixKernel", "()V"⟩
abbrev cX7_mixReach : ByteArray := prog_9_method_70_code
def yX7_mixReach : MethodName := ⟨RX7, "mixReach", "()V"⟩
abbrev cX7_digest : ByteArray := prog_9_method_71_code
def yX7_digest : MethodName := ⟨RX7, "digest", "()J"⟩
def RJ6 : String := "java/lang/Integer"
def TJ6 : u_T := fun k => match k with
  | _ => ("", "", "", false)
def tyJ6 : Nat → FieldType := fun k => match k with
  | _ => .int
abbrev wsJ60 : List Cond := u_ws RJ6 TJ6 0
theorem nmJ6 : ∀ a, a < 0 → ∀ b, b < 0 → a ≠ b → (TJ6 a).2.1 ≠ (TJ6 b).2.1 := by decide +kernel
theorem tyJ6_ok : ∀ k, k < 0 → parseFieldDescriptor (TJ6 k).2.2.1 = some (tyJ6 k) := by decide +kernel
abbrev cJ6_bitCount_0f7a4 : ByteArray := prog_10_method_49_code
def yJ6_bitCount_0f7a4 : MethodName := ⟨RJ6, "bitCount", "(I)I"⟩
def RJ9 : String := "java/lang/Math"
def TJ9 : u_T := fun k => match k with
  | _ => ("", "", "", false)
def tyJ9 : Nat → FieldType := fun k => match k with
  | _ => .int
abbrev wsJ90 : List Cond := u_ws RJ9 TJ9 0
theorem nmJ9 : ∀ a, a < 0 → ∀ b, b < 0 → a ≠ b → (TJ9 a).2.1 ≠ (TJ9 b).2.1 := by decide +kernel
theorem tyJ9_ok : ∀ k, k < 0 → parseFieldDescriptor (TJ9 k).2.2.1 = some (tyJ9 k) := by decide +kernel
abbrev cJ9_floorDiv_f86c9 : ByteArray := prog_11_method_49_code
def yJ9_floorDiv_f86c9 : MethodName := ⟨RJ9, "floorDiv", "(JJ)J"⟩
abbrev cJ9_abs_0f7a4 : ByteArray := prog_11_method_59_code
def yJ9_abs_0f7a4 : MethodName := ⟨RJ9, "abs", "(I)I"⟩
abbrev cJ9_abs_067f4 : ByteArray := prog_11_method_61_code
def yJ9_abs_067f4 : MethodName := ⟨RJ9, "abs", "(J)J"⟩
abbrev cJ9_max_7cf53 : ByteArray := prog_11_method_65_code
def yJ9_max_7cf53 : MethodName := ⟨RJ9, "max", "(II)I"⟩
abbrev cJ9_max_f86c9 : ByteArray := prog_11_method_66_code
def yJ9_max_f86c9 : MethodName := ⟨RJ9, "max", "(JJ)J"⟩
abbrev cJ9_min_f86c9 : ByteArray := prog_11_method_70_code
def yJ9_min_f86c9 : MethodName := ⟨RJ9, "min", "(JJ)J"⟩
def RL : String := "ShadowSpansLaw"
abbrev cL_law : ByteArray := code
def yL_law : MethodName := ⟨RL, "law", "([I)Z"⟩
end
section
/-! THE SHAPE: the classes by number, the words that all methods share, the links by number, the cells by place -/
def RN (o : Nat) : String := match o with
  | 0 => RX0 | 1 => RX1 | 2 => RX2 | 3 => RX3 | 4 => RX4 | 5 => RX5 | 6 => RX6 | 7 => RX7 | 8 => RJ6 | 9 => RJ9 | _ => RL
def TC (o : Nat) : u_T := match o with
  | 0 => TX0 | 1 => TX1 | 2 => TX2 | 3 => TX3 | 4 => TX4 | 5 => TX5 | 6 => TX6 | _ => TX7
abbrev classes : List vw_C := [(RX0, TX0, 3), (RX1, TX1, 6), (RX2, TX2, 4), (RX3, TX3, 7), (RX4, TX4, 3), (RX5, TX5, 3), (RX6, TX6, 9), (RX7, TX7, 25)]
/-- the words that every method's contract carries -/
def tw : List Cond := lw_tbl.filter goodWord
theorem tw_of {w : Cond} (i : Nat) (h : lw_tbl[i]? = some w) (hg : goodWord w = true) : w ∈ tw := List.mem_filter.mpr ⟨List.mem_of_getElem? h, hg⟩
theorem tw_good : ∀ w ∈ tw, (w.onTables && w.keeps) = true ∨ ∃ ty, w = .arrayClass ty := fun w h => good_of_word (List.mem_filter.mp h).2
theorem tw_sub : ∀ w ∈ tw, w ∈ lw_tbl := fun w h => (List.mem_filter.mp h).1
/-- own class, index, the object's class, the field; where it stands in the tables -/
def FLp : List (Nat × Nat × Nat × Nat × Nat) := [(2, 9, 2, 0, 97), (2, 19, 2, 1, 98), (2, 37, 2, 2, 99), (2, 44, 2, 3, 100), (3, 9, 3, 0, 117), (5, 24, 3, 0, 118), (1, 73, 3, 0, 119), (6, 121, 3, 0, 120), (4, 85, 3, 0, 121), (3, 15, 3, 1, 122), (5, 27, 3, 1, 123), (1, 66, 3, 1, 124), (6, 101, 3, 1, 125), (4, 81, 3, 1, 126), (3, 19, 3, 2, 127), (6, 105, 3, 2, 128), (3, 22, 3, 3, 129), (6, 108, 3, 3, 130), (3, 25, 3, 4, 131), (6, 115, 3, 4, 132), (3, 32, 3, 5, 133), (5, 19, 3, 5, 134), (6, 86, 3, 5, 135), (1, 63, 3, 5, 136), (4, 75, 3, 5, 137), (3, 28, 3, 6, 138), (6, 118, 3, 6, 139), (5, 11, 5, 0, 162), (5, 15, 5, 1, 163), (5, 39, 5, 2, 164), (6, 135, 5, 2, 165), (1, 11, 1, 0, 179), (1, 15, 1, 1, 180), (1, 32, 1, 2, 181), (1, 18, 1, 3, 182), (6, 151, 1, 3, 183), (1, 21, 1, 4, 184), (6, 154, 1, 4, 185), (1, 28, 1, 5, 186), (6, 138, 1, 5, 187), (0, 7, 0, 0, 213), (4, 25, 0, 0, 214), (0, 13, 0, 1, 215), (4, 65, 0, 1, 216), (0, 17, 0, 2, 217), (4, 69, 0, 2, 218), (4, 12, 4, 0, 226), (4, 18, 4, 1, 227), (4, 29, 4, 2, 228), (6, 9, 6, 0, 236), (6, 16, 6, 1, 237), (6, 23, 6, 2, 238), (6, 30, 6, 3, 239), (6, 37, 6, 4, 240), (6, 44, 6, 5, 241), (6, 49, 6, 6, 242), (6, 80, 6, 7, 243), (6, 98, 6, 8, 244), (7, 55, 7, 0, 652), (7, 7, 7, 1, 653), (7, 98, 7, 2, 654), (7, 13, 7, 3, 655), (7, 16, 7, 4, 656), (7, 20, 7, 5, 657), (7, 23, 7, 6, 658), (7, 26, 7, 7, 659), (7, 29, 7, 8, 660), (7, 106, 7, 9, 661), (7, 113, 7, 10, 662), (7, 59, 7, 11, 663), (7, 33, 7, 12, 664), (7, 62, 7, 13, 665), (7, 65, 7, 14, 666), (7, 73, 7, 15, 667), (7, 160, 7, 16, 668), (7, 36, 7, 17, 669), (7, 40, 7, 18, 670), (7, 174, 7, 19, 671), (7, 43, 7, 20, 672), (7, 205, 7, 21, 673), (7, 208, 7, 22, 674), (7, 212, 7, 23, 675), (7, 273, 7, 24, 676)]
def CLp : List (Nat × Nat × Int32 × Nat) := [(6, 48, (-100000003), 268), (6, 53, (-100000005), 269), (6, 72, (-100000004), 344), (8, 265, 1431655765, 389), (8, 266, 858993459, 390), (8, 267, 252645135, 391), (6, 93, (-100000002), 432), (6, 124, (-100000001), 451), (4, 47, (-100000006), 545), (4, 48, (-100000001), 546), (7, 54, (-100000003), 738), (7, 58, (-100000005), 739), (7, 97, (-100000001), 782), (7, 105, (-100000004), 783), (7, 112, (-100000002), 792), (7, 233, (-100000006), 945)]
def CJp : List (Nat × Nat × Int64 × Nat) := [(6, 179, 1613, 629), (6, 181, 31, 630), (7, 46, 32, 733), (7, 48, 126, 734), (7, 76, 48, 756), (7, 78, 57, 757), (7, 116, 20, 797), (7, 122, 8, 806), (7, 127, (-200), 819), (7, 129, 200, 820), (7, 197, 3, 866), (7, 280, 1613, 1002), (7, 271, 31, 1007)]
def fl_w (e : Nat × Nat × Nat × Nat × Nat) : Cond := .fieldLink (RN e.1) e.2.1 (TC e.2.2.1 e.2.2.2.1).1 (TC e.2.2.1 e.2.2.2.1).2.1 (TC e.2.2.1 e.2.2.2.1).2.2.1
theorem fl_in : ∀ e ∈ FLp, lw_tbl[e.2.2.2.2]? = some (fl_w e) := by decide +kernel
theorem cl_in : ∀ e ∈ CLp, lw_tbl[e.2.2.2]? = some (.constant (RN e.1) e.2.1 e.2.2.1) := by decide +kernel
theorem cj_in : ∀ e ∈ CJp, lw_tbl[e.2.2.2]? = some (.constantLong (RN e.1) e.2.1 e.2.2.1) := by decide +kernel
theorem cl_i0 : ∀ w ∈ u_ws RX0 TX0 3, w ∈ lw_tbl := by decide +kernel
theorem cl_i1 : ∀ w ∈ u_ws RX1 TX1 6, w ∈ lw_tbl := by decide +kernel
theorem cl_i2 : ∀ w ∈ u_ws RX2 TX2 4, w ∈ lw_tbl := by decide +kernel
theorem cl_i3 : ∀ w ∈ u_ws RX3 TX3 7, w ∈ lw_tbl := by decide +kernel
theorem cl_i4 : ∀ w ∈ u_ws RX4 TX4 3, w ∈ lw_tbl := by decide +kernel
theorem cl_i5 : ∀ w ∈ u_ws RX5 TX5 3, w ∈ lw_tbl := by decide +kernel
theorem cl_i6 : ∀ w ∈ u_ws RX6 TX6 9, w ∈ lw_tbl := by decide +kernel
theorem cl_i7 : ∀ w ∈ u_ws RX7 TX7 25, w ∈ lw_tbl := by decide +kernel
end
