-- ===== PART A: goes FIRST, ahead of the names: the tables' words, and 'selects' of the private methods out of them =====
/-- a private method of a class that the tables say can be made, by its rows of tables_1 -/
def lw_okq (q : MethodName × Nat) : Prop := (q.1.cls ≠ "java/lang/invoke/MethodHandle" ∧ q.1.cls ≠ "java/lang/invoke/VarHandle") ∧ Cond.instantiable q.1.cls q.2 ∈ tables_1 ∧ Cond.privateMethod q.1 ∈ tables_1 ∧ Cond.instanceMethod q.1 ∈ tables_1
theorem lw_p0 : lw_okq (⟨"WishPlaces$Board", "sortLikes", "(I)V"⟩, 7) := ⟨⟨by decide +kernel, by decide +kernel⟩, List.mem_of_getElem? (i := 20) (by decide +kernel), List.mem_of_getElem? (i := 337) (by decide +kernel), List.mem_of_getElem? (i := 338) (by decide +kernel)⟩
theorem lw_p1 : lw_okq (⟨"WishPlaces$Board", "takeBack", "(II)V"⟩, 7) := ⟨⟨by decide +kernel, by decide +kernel⟩, List.mem_of_getElem? (i := 20) (by decide +kernel), List.mem_of_getElem? (i := 341) (by decide +kernel), List.mem_of_getElem? (i := 342) (by decide +kernel)⟩
theorem lw_p2 : lw_okq (⟨"WishPlaces", "isPlaceOrNone", "(I)Z"⟩, 12) := ⟨⟨by decide +kernel, by decide +kernel⟩, List.mem_of_getElem? (i := 12) (by decide +kernel), List.mem_of_getElem? (i := 349) (by decide +kernel), List.mem_of_getElem? (i := 350) (by decide +kernel)⟩
theorem lw_p3 : lw_okq (⟨"WishPlaces", "solveAll", "()V"⟩, 12) := ⟨⟨by decide +kernel, by decide +kernel⟩, List.mem_of_getElem? (i := 12) (by decide +kernel), List.mem_of_getElem? (i := 361) (by decide +kernel), List.mem_of_getElem? (i := 362) (by decide +kernel)⟩
theorem lw_p4 : lw_okq (⟨"WishPlaces$Search", "isSolved", "()Z"⟩, 16) := ⟨⟨by decide +kernel, by decide +kernel⟩, List.mem_of_getElem? (i := 65) (by decide +kernel), List.mem_of_getElem? (i := 379) (by decide +kernel), List.mem_of_getElem? (i := 380) (by decide +kernel)⟩
theorem lw_p5 : lw_okq (⟨"WishPlaces$Search", "setClips", "()V"⟩, 16) := ⟨⟨by decide +kernel, by decide +kernel⟩, List.mem_of_getElem? (i := 65) (by decide +kernel), List.mem_of_getElem? (i := 390) (by decide +kernel), List.mem_of_getElem? (i := 391) (by decide +kernel)⟩
theorem lw_p6 : lw_okq (⟨"WishPlaces$Search", "setClip", "(III)V"⟩, 16) := ⟨⟨by decide +kernel, by decide +kernel⟩, List.mem_of_getElem? (i := 65) (by decide +kernel), List.mem_of_getElem? (i := 395) (by decide +kernel), List.mem_of_getElem? (i := 396) (by decide +kernel)⟩
theorem lw_p7 : lw_okq (⟨"WishPlaces$Search", "spread", "()V"⟩, 16) := ⟨⟨by decide +kernel, by decide +kernel⟩, List.mem_of_getElem? (i := 65) (by decide +kernel), List.mem_of_getElem? (i := 399) (by decide +kernel), List.mem_of_getElem? (i := 400) (by decide +kernel)⟩
theorem lw_p8 : lw_okq (⟨"WishPlaces$Search", "spreadEntry", "(II)V"⟩, 16) := ⟨⟨by decide +kernel, by decide +kernel⟩, List.mem_of_getElem? (i := 65) (by decide +kernel), List.mem_of_getElem? (i := 403) (by decide +kernel), List.mem_of_getElem? (i := 404) (by decide +kernel)⟩
theorem lw_p9 : lw_okq (⟨"WishPlaces$Search", "entryOf", "(II)I"⟩, 16) := ⟨⟨by decide +kernel, by decide +kernel⟩, List.mem_of_getElem? (i := 65) (by decide +kernel), List.mem_of_getElem? (i := 407) (by decide +kernel), List.mem_of_getElem? (i := 408) (by decide +kernel)⟩
theorem lw_p10 : lw_okq (⟨"WishPlaces$Search", "weigh", "()V"⟩, 16) := ⟨⟨by decide +kernel, by decide +kernel⟩, List.mem_of_getElem? (i := 65) (by decide +kernel), List.mem_of_getElem? (i := 411) (by decide +kernel), List.mem_of_getElem? (i := 412) (by decide +kernel)⟩
theorem lw_p11 : lw_okq (⟨"WishPlaces$Search", "weighEntry", "(II)V"⟩, 16) := ⟨⟨by decide +kernel, by decide +kernel⟩, List.mem_of_getElem? (i := 65) (by decide +kernel), List.mem_of_getElem? (i := 415) (by decide +kernel), List.mem_of_getElem? (i := 416) (by decide +kernel)⟩
theorem lw_p12 : lw_okq (⟨"WishPlaces$Search", "childOf", "(II)I"⟩, 16) := ⟨⟨by decide +kernel, by decide +kernel⟩, List.mem_of_getElem? (i := 65) (by decide +kernel), List.mem_of_getElem? (i := 419) (by decide +kernel), List.mem_of_getElem? (i := 420) (by decide +kernel)⟩
theorem lw_p13 : lw_okq (⟨"WishPlaces$Search", "waysBy", "(III)I"⟩, 16) := ⟨⟨by decide +kernel, by decide +kernel⟩, List.mem_of_getElem? (i := 65) (by decide +kernel), List.mem_of_getElem? (i := 436) (by decide +kernel), List.mem_of_getElem? (i := 437) (by decide +kernel)⟩
theorem lw_p14 : lw_okq (⟨"WishPlaces", "isFree", "(III)Z"⟩, 12) := ⟨⟨by decide +kernel, by decide +kernel⟩, List.mem_of_getElem? (i := 12) (by decide +kernel), List.mem_of_getElem? (i := 447) (by decide +kernel), List.mem_of_getElem? (i := 448) (by decide +kernel)⟩
theorem lw_p15 : lw_okq (⟨"WishPlaces", "findRow", "(II)V"⟩, 12) := ⟨⟨by decide +kernel, by decide +kernel⟩, List.mem_of_getElem? (i := 12) (by decide +kernel), List.mem_of_getElem? (i := 463) (by decide +kernel), List.mem_of_getElem? (i := 464) (by decide +kernel)⟩
def lw_privs_1 : List (MethodName × Nat) := [(⟨"WishPlaces$Board", "sortLikes", "(I)V"⟩, 7), (⟨"WishPlaces$Board", "takeBack", "(II)V"⟩, 7), (⟨"WishPlaces", "isPlaceOrNone", "(I)Z"⟩, 12), (⟨"WishPlaces", "solveAll", "()V"⟩, 12), (⟨"WishPlaces$Search", "isSolved", "()Z"⟩, 16), (⟨"WishPlaces$Search", "setClips", "()V"⟩, 16), (⟨"WishPlaces$Search", "setClip", "(III)V"⟩, 16), (⟨"WishPlaces$Search", "spread", "()V"⟩, 16), (⟨"WishPlaces$Search", "spreadEntry", "(II)V"⟩, 16), (⟨"WishPlaces$Search", "entryOf", "(II)I"⟩, 16), (⟨"WishPlaces$Search", "weigh", "()V"⟩, 16), (⟨"WishPlaces$Search", "weighEntry", "(II)V"⟩, 16), (⟨"WishPlaces$Search", "childOf", "(II)I"⟩, 16), (⟨"WishPlaces$Search", "waysBy", "(III)I"⟩, 16), (⟨"WishPlaces", "isFree", "(III)Z"⟩, 12), (⟨"WishPlaces", "findRow", "(II)V"⟩, 12)]
theorem lw_r1 : ∀ q ∈ lw_privs_1, lw_okq q := List.forall_mem_cons.mpr ⟨lw_p0, List.forall_mem_cons.mpr ⟨lw_p1, List.forall_mem_cons.mpr ⟨lw_p2, List.forall_mem_cons.mpr ⟨lw_p3, List.forall_mem_cons.mpr ⟨lw_p4, List.forall_mem_cons.mpr ⟨lw_p5, List.forall_mem_cons.mpr ⟨lw_p6, List.forall_mem_cons.mpr ⟨lw_p7, List.forall_mem_cons.mpr ⟨lw_p8, List.forall_mem_cons.mpr ⟨lw_p9, List.forall_mem_cons.mpr ⟨lw_p10, List.forall_mem_cons.mpr ⟨lw_p11, List.forall_mem_cons.mpr ⟨lw_p12, List.forall_mem_cons.mpr ⟨lw_p13, List.forall_mem_cons.mpr ⟨lw_p14, List.forall_mem_cons.mpr ⟨lw_p15, fun _ h => absurd h List.not_mem_nil⟩⟩⟩⟩⟩⟩⟩⟩⟩⟩⟩⟩⟩⟩⟩⟩
theorem lw_p16 : lw_okq (⟨"WishPlaces", "findByWorth", "([I)V"⟩, 12) := ⟨⟨by decide +kernel, by decide +kernel⟩, List.mem_of_getElem? (i := 12) (by decide +kernel), List.mem_of_getElem? (i := 469) (by decide +kernel), List.mem_of_getElem? (i := 470) (by decide +kernel)⟩
theorem lw_p17 : lw_okq (⟨"WishPlaces", "solveVotes", "(III)V"⟩, 12) := ⟨⟨by decide +kernel, by decide +kernel⟩, List.mem_of_getElem? (i := 12) (by decide +kernel), List.mem_of_getElem? (i := 477) (by decide +kernel), List.mem_of_getElem? (i := 478) (by decide +kernel)⟩
theorem lw_p18 : lw_okq (⟨"WishPlaces$Trade", "findHolders", "()V"⟩, 6) := ⟨⟨by decide +kernel, by decide +kernel⟩, List.mem_of_getElem? (i := 140) (by decide +kernel), List.mem_of_getElem? (i := 490) (by decide +kernel), List.mem_of_getElem? (i := 491) (by decide +kernel)⟩
theorem lw_p19 : lw_okq (⟨"WishPlaces$Trade", "isLeft", "(I)Z"⟩, 6) := ⟨⟨by decide +kernel, by decide +kernel⟩, List.mem_of_getElem? (i := 140) (by decide +kernel), List.mem_of_getElem? (i := 494) (by decide +kernel), List.mem_of_getElem? (i := 495) (by decide +kernel)⟩
theorem lw_p20 : lw_okq (⟨"WishPlaces$Trade", "pointAll", "()V"⟩, 6) := ⟨⟨by decide +kernel, by decide +kernel⟩, List.mem_of_getElem? (i := 140) (by decide +kernel), List.mem_of_getElem? (i := 498) (by decide +kernel), List.mem_of_getElem? (i := 499) (by decide +kernel)⟩
theorem lw_p21 : lw_okq (⟨"WishPlaces$Trade", "targetOf", "(I)I"⟩, 6) := ⟨⟨by decide +kernel, by decide +kernel⟩, List.mem_of_getElem? (i := 140) (by decide +kernel), List.mem_of_getElem? (i := 502) (by decide +kernel), List.mem_of_getElem? (i := 503) (by decide +kernel)⟩
theorem lw_p22 : lw_okq (⟨"WishPlaces$Trade", "serve", "(I)I"⟩, 6) := ⟨⟨by decide +kernel, by decide +kernel⟩, List.mem_of_getElem? (i := 140) (by decide +kernel), List.mem_of_getElem? (i := 507) (by decide +kernel), List.mem_of_getElem? (i := 508) (by decide +kernel)⟩
theorem lw_p23 : lw_okq (⟨"WishPlaces$Trade", "isOnRing", "(I)Z"⟩, 6) := ⟨⟨by decide +kernel, by decide +kernel⟩, List.mem_of_getElem? (i := 140) (by decide +kernel), List.mem_of_getElem? (i := 511) (by decide +kernel), List.mem_of_getElem? (i := 512) (by decide +kernel)⟩
theorem lw_p24 : lw_okq (⟨"WishPlaces", "copyTold", "(I)V"⟩, 12) := ⟨⟨by decide +kernel, by decide +kernel⟩, List.mem_of_getElem? (i := 12) (by decide +kernel), List.mem_of_getElem? (i := 516) (by decide +kernel), List.mem_of_getElem? (i := 517) (by decide +kernel)⟩
theorem lw_p25 : lw_okq (⟨"WishPlaces", "countRisers", "(I)I"⟩, 12) := ⟨⟨by decide +kernel, by decide +kernel⟩, List.mem_of_getElem? (i := 12) (by decide +kernel), List.mem_of_getElem? (i := 542) (by decide +kernel), List.mem_of_getElem? (i := 543) (by decide +kernel)⟩
theorem lw_p26 : lw_okq (⟨"WishPlaces", "countFallers", "(I)I"⟩, 12) := ⟨⟨by decide +kernel, by decide +kernel⟩, List.mem_of_getElem? (i := 12) (by decide +kernel), List.mem_of_getElem? (i := 546) (by decide +kernel), List.mem_of_getElem? (i := 547) (by decide +kernel)⟩
theorem lw_p27 : lw_okq (⟨"WishPlaces", "canAnyRise", "(I)Z"⟩, 12) := ⟨⟨by decide +kernel, by decide +kernel⟩, List.mem_of_getElem? (i := 12) (by decide +kernel), List.mem_of_getElem? (i := 566) (by decide +kernel), List.mem_of_getElem? (i := 567) (by decide +kernel)⟩
theorem lw_p28 : lw_okq (⟨"WishPlaces", "tellFraction", "(JJ)V"⟩, 12) := ⟨⟨by decide +kernel, by decide +kernel⟩, List.mem_of_getElem? (i := 12) (by decide +kernel), List.mem_of_getElem? (i := 574) (by decide +kernel), List.mem_of_getElem? (i := 575) (by decide +kernel)⟩
theorem lw_p29 : lw_okq (⟨"WishPlaces", "findFactor", "(I)V"⟩, 12) := ⟨⟨by decide +kernel, by decide +kernel⟩, List.mem_of_getElem? (i := 12) (by decide +kernel), List.mem_of_getElem? (i := 582) (by decide +kernel), List.mem_of_getElem? (i := 583) (by decide +kernel)⟩
theorem lw_p30 : lw_okq (⟨"WishPlaces$Steady", "firstBits", "(I)I"⟩, 4) := ⟨⟨by decide +kernel, by decide +kernel⟩, List.mem_of_getElem? (i := 120) (by decide +kernel), List.mem_of_getElem? (i := 600) (by decide +kernel), List.mem_of_getElem? (i := 601) (by decide +kernel)⟩
theorem lw_p31 : lw_okq (⟨"WishPlaces$Steady", "weighCover", "(I)V"⟩, 4) := ⟨⟨by decide +kernel, by decide +kernel⟩, List.mem_of_getElem? (i := 120) (by decide +kernel), List.mem_of_getElem? (i := 606) (by decide +kernel), List.mem_of_getElem? (i := 607) (by decide +kernel)⟩
def lw_privs_2 : List (MethodName × Nat) := [(⟨"WishPlaces", "findByWorth", "([I)V"⟩, 12), (⟨"WishPlaces", "solveVotes", "(III)V"⟩, 12), (⟨"WishPlaces$Trade", "findHolders", "()V"⟩, 6), (⟨"WishPlaces$Trade", "isLeft", "(I)Z"⟩, 6), (⟨"WishPlaces$Trade", "pointAll", "()V"⟩, 6), (⟨"WishPlaces$Trade", "targetOf", "(I)I"⟩, 6), (⟨"WishPlaces$Trade", "serve", "(I)I"⟩, 6), (⟨"WishPlaces$Trade", "isOnRing", "(I)Z"⟩, 6), (⟨"WishPlaces", "copyTold", "(I)V"⟩, 12), (⟨"WishPlaces", "countRisers", "(I)I"⟩, 12), (⟨"WishPlaces", "countFallers", "(I)I"⟩, 12), (⟨"WishPlaces", "canAnyRise", "(I)Z"⟩, 12), (⟨"WishPlaces", "tellFraction", "(JJ)V"⟩, 12), (⟨"WishPlaces", "findFactor", "(I)V"⟩, 12), (⟨"WishPlaces$Steady", "firstBits", "(I)I"⟩, 4), (⟨"WishPlaces$Steady", "weighCover", "(I)V"⟩, 4)]
theorem lw_r2 : ∀ q ∈ lw_privs_2, lw_okq q := List.forall_mem_cons.mpr ⟨lw_p16, List.forall_mem_cons.mpr ⟨lw_p17, List.forall_mem_cons.mpr ⟨lw_p18, List.forall_mem_cons.mpr ⟨lw_p19, List.forall_mem_cons.mpr ⟨lw_p20, List.forall_mem_cons.mpr ⟨lw_p21, List.forall_mem_cons.mpr ⟨lw_p22, List.forall_mem_cons.mpr ⟨lw_p23, List.forall_mem_cons.mpr ⟨lw_p24, List.forall_mem_cons.mpr ⟨lw_p25, List.forall_mem_cons.mpr ⟨lw_p26, List.forall_mem_cons.mpr ⟨lw_p27, List.forall_mem_cons.mpr ⟨lw_p28, List.forall_mem_cons.mpr ⟨lw_p29, List.forall_mem_cons.mpr ⟨lw_p30, List.forall_mem_cons.mpr ⟨lw_p31, fun _ h => absurd h List.not_mem_nil⟩⟩⟩⟩⟩⟩⟩⟩⟩⟩⟩⟩⟩⟩⟩⟩
theorem lw_p32 : lw_okq (⟨"WishPlaces$Steady", "secondWorth", "(I)I"⟩, 4) := ⟨⟨by decide +kernel, by decide +kernel⟩, List.mem_of_getElem? (i := 120) (by decide +kernel), List.mem_of_getElem? (i := 614) (by decide +kernel), List.mem_of_getElem? (i := 615) (by decide +kernel)⟩
theorem lw_p33 : lw_okq (⟨"WishPlaces$Steady", "isTight", "(I)Z"⟩, 4) := ⟨⟨by decide +kernel, by decide +kernel⟩, List.mem_of_getElem? (i := 120) (by decide +kernel), List.mem_of_getElem? (i := 618) (by decide +kernel), List.mem_of_getElem? (i := 619) (by decide +kernel)⟩
theorem lw_p34 : lw_okq (⟨"WishPlaces", "isOrder", "(I)Z"⟩, 12) := ⟨⟨by decide +kernel, by decide +kernel⟩, List.mem_of_getElem? (i := 12) (by decide +kernel), List.mem_of_getElem? (i := 638) (by decide +kernel), List.mem_of_getElem? (i := 639) (by decide +kernel)⟩
theorem lw_p35 : lw_okq (⟨"WishPlaces", "fillTurn", "(II)V"⟩, 12) := ⟨⟨by decide +kernel, by decide +kernel⟩, List.mem_of_getElem? (i := 12) (by decide +kernel), List.mem_of_getElem? (i := 642) (by decide +kernel), List.mem_of_getElem? (i := 643) (by decide +kernel)⟩
theorem lw_p36 : lw_okq (⟨"WishPlaces$Ring", "wantsOf", "(III)I"⟩, 4) := ⟨⟨by decide +kernel, by decide +kernel⟩, List.mem_of_getElem? (i := 167) (by decide +kernel), List.mem_of_getElem? (i := 658) (by decide +kernel), List.mem_of_getElem? (i := 659) (by decide +kernel)⟩
theorem lw_p37 : lw_okq (⟨"WishPlaces$Ring", "hasRing", "(I)Z"⟩, 4) := ⟨⟨by decide +kernel, by decide +kernel⟩, List.mem_of_getElem? (i := 167) (by decide +kernel), List.mem_of_getElem? (i := 665) (by decide +kernel), List.mem_of_getElem? (i := 666) (by decide +kernel)⟩
theorem lw_p38 : lw_okq (⟨"WishPlaces$Lots", "takes", "(II)I"⟩, 8) := ⟨⟨by decide +kernel, by decide +kernel⟩, List.mem_of_getElem? (i := 188) (by decide +kernel), List.mem_of_getElem? (i := 688) (by decide +kernel), List.mem_of_getElem? (i := 689) (by decide +kernel)⟩
theorem lw_p39 : lw_okq (⟨"WishPlaces$Eating", "seatAll", "()V"⟩, 7) := ⟨⟨by decide +kernel, by decide +kernel⟩, List.mem_of_getElem? (i := 220) (by decide +kernel), List.mem_of_getElem? (i := 706) (by decide +kernel), List.mem_of_getElem? (i := 707) (by decide +kernel)⟩
theorem lw_p40 : lw_okq (⟨"WishPlaces$Eating", "bestLeft", "(I)I"⟩, 7) := ⟨⟨by decide +kernel, by decide +kernel⟩, List.mem_of_getElem? (i := 220) (by decide +kernel), List.mem_of_getElem? (i := 710) (by decide +kernel), List.mem_of_getElem? (i := 711) (by decide +kernel)⟩
theorem lw_p41 : lw_okq (⟨"WishPlaces$Eating", "soonestUp", "()I"⟩, 7) := ⟨⟨by decide +kernel, by decide +kernel⟩, List.mem_of_getElem? (i := 220) (by decide +kernel), List.mem_of_getElem? (i := 715) (by decide +kernel), List.mem_of_getElem? (i := 716) (by decide +kernel)⟩
theorem lw_p42 : lw_okq (⟨"WishPlaces$Eating", "eatFor", "(J)V"⟩, 7) := ⟨⟨by decide +kernel, by decide +kernel⟩, List.mem_of_getElem? (i := 220) (by decide +kernel), List.mem_of_getElem? (i := 719) (by decide +kernel), List.mem_of_getElem? (i := 720) (by decide +kernel)⟩
theorem lw_p43 : lw_okq (⟨"WishPlaces$Eating", "refine", "(I)V"⟩, 7) := ⟨⟨by decide +kernel, by decide +kernel⟩, List.mem_of_getElem? (i := 220) (by decide +kernel), List.mem_of_getElem? (i := 723) (by decide +kernel), List.mem_of_getElem? (i := 724) (by decide +kernel)⟩
theorem lw_p44 : lw_okq (⟨"WishPlacesModel", "isPlace", "(I)Z"⟩, 29) := ⟨⟨by decide +kernel, by decide +kernel⟩, List.mem_of_getElem? (i := 765) (by decide +kernel), List.mem_of_getElem? (i := 878) (by decide +kernel), List.mem_of_getElem? (i := 879) (by decide +kernel)⟩
theorem lw_p45 : lw_okq (⟨"WishPlacesModel", "had", "(II)I"⟩, 29) := ⟨⟨by decide +kernel, by decide +kernel⟩, List.mem_of_getElem? (i := 765) (by decide +kernel), List.mem_of_getElem? (i := 882) (by decide +kernel), List.mem_of_getElem? (i := 883) (by decide +kernel)⟩
theorem lw_p46 : lw_okq (⟨"WishPlacesModel", "isAsker", "(I)Z"⟩, 29) := ⟨⟨by decide +kernel, by decide +kernel⟩, List.mem_of_getElem? (i := 765) (by decide +kernel), List.mem_of_getElem? (i := 890) (by decide +kernel), List.mem_of_getElem? (i := 891) (by decide +kernel)⟩
theorem lw_p47 : lw_okq (⟨"WishPlacesModel", "worthOf", "(II)I"⟩, 29) := ⟨⟨by decide +kernel, by decide +kernel⟩, List.mem_of_getElem? (i := 765) (by decide +kernel), List.mem_of_getElem? (i := 898) (by decide +kernel), List.mem_of_getElem? (i := 899) (by decide +kernel)⟩
def lw_privs_3 : List (MethodName × Nat) := [(⟨"WishPlaces$Steady", "secondWorth", "(I)I"⟩, 4), (⟨"WishPlaces$Steady", "isTight", "(I)Z"⟩, 4), (⟨"WishPlaces", "isOrder", "(I)Z"⟩, 12), (⟨"WishPlaces", "fillTurn", "(II)V"⟩, 12), (⟨"WishPlaces$Ring", "wantsOf", "(III)I"⟩, 4), (⟨"WishPlaces$Ring", "hasRing", "(I)Z"⟩, 4), (⟨"WishPlaces$Lots", "takes", "(II)I"⟩, 8), (⟨"WishPlaces$Eating", "seatAll", "()V"⟩, 7), (⟨"WishPlaces$Eating", "bestLeft", "(I)I"⟩, 7), (⟨"WishPlaces$Eating", "soonestUp", "()I"⟩, 7), (⟨"WishPlaces$Eating", "eatFor", "(J)V"⟩, 7), (⟨"WishPlaces$Eating", "refine", "(I)V"⟩, 7), (⟨"WishPlacesModel", "isPlace", "(I)Z"⟩, 29), (⟨"WishPlacesModel", "had", "(II)I"⟩, 29), (⟨"WishPlacesModel", "isAsker", "(I)Z"⟩, 29), (⟨"WishPlacesModel", "worthOf", "(II)I"⟩, 29)]
theorem lw_r3 : ∀ q ∈ lw_privs_3, lw_okq q := List.forall_mem_cons.mpr ⟨lw_p32, List.forall_mem_cons.mpr ⟨lw_p33, List.forall_mem_cons.mpr ⟨lw_p34, List.forall_mem_cons.mpr ⟨lw_p35, List.forall_mem_cons.mpr ⟨lw_p36, List.forall_mem_cons.mpr ⟨lw_p37, List.forall_mem_cons.mpr ⟨lw_p38, List.forall_mem_cons.mpr ⟨lw_p39, List.forall_mem_cons.mpr ⟨lw_p40, List.forall_mem_cons.mpr ⟨lw_p41, List.forall_mem_cons.mpr ⟨lw_p42, List.forall_mem_cons.mpr ⟨lw_p43, List.forall_mem_cons.mpr ⟨lw_p44, List.forall_mem_cons.mpr ⟨lw_p45, List.forall_mem_cons.mpr ⟨lw_p46, List.forall_mem_cons.mpr ⟨lw_p47, fun _ h => absurd h List.not_mem_nil⟩⟩⟩⟩⟩⟩⟩⟩⟩⟩⟩⟩⟩⟩⟩⟩
theorem lw_p48 : lw_okq (⟨"WishPlacesModel", "findCount", "()V"⟩, 29) := ⟨⟨by decide +kernel, by decide +kernel⟩, List.mem_of_getElem? (i := 765) (by decide +kernel), List.mem_of_getElem? (i := 906) (by decide +kernel), List.mem_of_getElem? (i := 907) (by decide +kernel)⟩
theorem lw_p49 : lw_okq (⟨"WishPlacesModel", "findWeights", "()V"⟩, 29) := ⟨⟨by decide +kernel, by decide +kernel⟩, List.mem_of_getElem? (i := 765) (by decide +kernel), List.mem_of_getElem? (i := 910) (by decide +kernel), List.mem_of_getElem? (i := 911) (by decide +kernel)⟩
theorem lw_p50 : lw_okq (⟨"WishPlacesModel", "takes", "(III)I"⟩, 29) := ⟨⟨by decide +kernel, by decide +kernel⟩, List.mem_of_getElem? (i := 765) (by decide +kernel), List.mem_of_getElem? (i := 914) (by decide +kernel), List.mem_of_getElem? (i := 915) (by decide +kernel)⟩
theorem lw_p51 : lw_okq (⟨"WishPlacesModel", "findBy", "(I)V"⟩, 29) := ⟨⟨by decide +kernel, by decide +kernel⟩, List.mem_of_getElem? (i := 765) (by decide +kernel), List.mem_of_getElem? (i := 933) (by decide +kernel), List.mem_of_getElem? (i := 934) (by decide +kernel)⟩
theorem lw_p52 : lw_okq (⟨"WishPlacesModel", "findLeast", "()J"⟩, 29) := ⟨⟨by decide +kernel, by decide +kernel⟩, List.mem_of_getElem? (i := 765) (by decide +kernel), List.mem_of_getElem? (i := 946) (by decide +kernel), List.mem_of_getElem? (i := 947) (by decide +kernel)⟩
theorem lw_p53 : lw_okq (⟨"WishPlacesModel", "findBeater", "(IZ)I"⟩, 29) := ⟨⟨by decide +kernel, by decide +kernel⟩, List.mem_of_getElem? (i := 765) (by decide +kernel), List.mem_of_getElem? (i := 950) (by decide +kernel), List.mem_of_getElem? (i := 951) (by decide +kernel)⟩
theorem lw_p54 : lw_okq (⟨"WishPlacesModel", "findTrade", "(I)V"⟩, 29) := ⟨⟨by decide +kernel, by decide +kernel⟩, List.mem_of_getElem? (i := 765) (by decide +kernel), List.mem_of_getElem? (i := 955) (by decide +kernel), List.mem_of_getElem? (i := 956) (by decide +kernel)⟩
theorem lw_p55 : lw_okq (⟨"WishPlacesModel", "pointsAt", "(III)I"⟩, 29) := ⟨⟨by decide +kernel, by decide +kernel⟩, List.mem_of_getElem? (i := 765) (by decide +kernel), List.mem_of_getElem? (i := 959) (by decide +kernel), List.mem_of_getElem? (i := 960) (by decide +kernel)⟩
theorem lw_p56 : lw_okq (⟨"WishPlacesModel", "isRing", "(I)Z"⟩, 29) := ⟨⟨by decide +kernel, by decide +kernel⟩, List.mem_of_getElem? (i := 765) (by decide +kernel), List.mem_of_getElem? (i := 963) (by decide +kernel), List.mem_of_getElem? (i := 964) (by decide +kernel)⟩
theorem lw_p57 : lw_okq (⟨"WishPlacesModel", "findPrefer", "(I)V"⟩, 29) := ⟨⟨by decide +kernel, by decide +kernel⟩, List.mem_of_getElem? (i := 765) (by decide +kernel), List.mem_of_getElem? (i := 1000) (by decide +kernel), List.mem_of_getElem? (i := 1001) (by decide +kernel)⟩
theorem lw_p58 : lw_okq (⟨"WishPlacesModel", "tells", "(JJ)I"⟩, 29) := ⟨⟨by decide +kernel, by decide +kernel⟩, List.mem_of_getElem? (i := 765) (by decide +kernel), List.mem_of_getElem? (i := 1004) (by decide +kernel), List.mem_of_getElem? (i := 1005) (by decide +kernel)⟩
theorem lw_p59 : lw_okq (⟨"WishPlacesModel", "findStand", "()V"⟩, 29) := ⟨⟨by decide +kernel, by decide +kernel⟩, List.mem_of_getElem? (i := 765) (by decide +kernel), List.mem_of_getElem? (i := 1019) (by decide +kernel), List.mem_of_getElem? (i := 1020) (by decide +kernel)⟩
theorem lw_p60 : lw_okq (⟨"WishPlacesModel", "findStanding", "()V"⟩, 29) := ⟨⟨by decide +kernel, by decide +kernel⟩, List.mem_of_getElem? (i := 765) (by decide +kernel), List.mem_of_getElem? (i := 1023) (by decide +kernel), List.mem_of_getElem? (i := 1024) (by decide +kernel)⟩
theorem lw_p61 : lw_okq (⟨"WishPlacesModel", "mostFirsts", "(I)I"⟩, 29) := ⟨⟨by decide +kernel, by decide +kernel⟩, List.mem_of_getElem? (i := 765) (by decide +kernel), List.mem_of_getElem? (i := 1027) (by decide +kernel), List.mem_of_getElem? (i := 1028) (by decide +kernel)⟩
theorem lw_p62 : lw_okq (⟨"WishPlacesModel", "standAt", "(III)I"⟩, 29) := ⟨⟨by decide +kernel, by decide +kernel⟩, List.mem_of_getElem? (i := 765) (by decide +kernel), List.mem_of_getElem? (i := 1031) (by decide +kernel), List.mem_of_getElem? (i := 1032) (by decide +kernel)⟩
theorem lw_p63 : lw_okq (⟨"WishPlacesModel", "standOn", "(IIII)J"⟩, 29) := ⟨⟨by decide +kernel, by decide +kernel⟩, List.mem_of_getElem? (i := 765) (by decide +kernel), List.mem_of_getElem? (i := 1035) (by decide +kernel), List.mem_of_getElem? (i := 1036) (by decide +kernel)⟩
def lw_privs_4 : List (MethodName × Nat) := [(⟨"WishPlacesModel", "findCount", "()V"⟩, 29), (⟨"WishPlacesModel", "findWeights", "()V"⟩, 29), (⟨"WishPlacesModel", "takes", "(III)I"⟩, 29), (⟨"WishPlacesModel", "findBy", "(I)V"⟩, 29), (⟨"WishPlacesModel", "findLeast", "()J"⟩, 29), (⟨"WishPlacesModel", "findBeater", "(IZ)I"⟩, 29), (⟨"WishPlacesModel", "findTrade", "(I)V"⟩, 29), (⟨"WishPlacesModel", "pointsAt", "(III)I"⟩, 29), (⟨"WishPlacesModel", "isRing", "(I)Z"⟩, 29), (⟨"WishPlacesModel", "findPrefer", "(I)V"⟩, 29), (⟨"WishPlacesModel", "tells", "(JJ)I"⟩, 29), (⟨"WishPlacesModel", "findStand", "()V"⟩, 29), (⟨"WishPlacesModel", "findStanding", "()V"⟩, 29), (⟨"WishPlacesModel", "mostFirsts", "(I)I"⟩, 29), (⟨"WishPlacesModel", "standAt", "(III)I"⟩, 29), (⟨"WishPlacesModel", "standOn", "(IIII)J"⟩, 29)]
theorem lw_r4 : ∀ q ∈ lw_privs_4, lw_okq q := List.forall_mem_cons.mpr ⟨lw_p48, List.forall_mem_cons.mpr ⟨lw_p49, List.forall_mem_cons.mpr ⟨lw_p50, List.forall_mem_cons.mpr ⟨lw_p51, List.forall_mem_cons.mpr ⟨lw_p52, List.forall_mem_cons.mpr ⟨lw_p53, List.forall_mem_cons.mpr ⟨lw_p54, List.forall_mem_cons.mpr ⟨lw_p55, List.forall_mem_cons.mpr ⟨lw_p56, List.forall_mem_cons.mpr ⟨lw_p57, List.forall_mem_cons.mpr ⟨lw_p58, List.forall_mem_cons.mpr ⟨lw_p59, List.forall_mem_cons.mpr ⟨lw_p60, List.forall_mem_cons.mpr ⟨lw_p61, List.forall_mem_cons.mpr ⟨lw_p62, List.forall_mem_cons.mpr ⟨lw_p63, fun _ h => absurd h List.not_mem_nil⟩⟩⟩⟩⟩⟩⟩⟩⟩⟩⟩⟩⟩⟩⟩⟩
theorem lw_p64 : lw_okq (⟨"WishPlacesModel", "mayStand", "(II)Z"⟩, 29) := ⟨⟨by decide +kernel, by decide +kernel⟩, List.mem_of_getElem? (i := 765) (by decide +kernel), List.mem_of_getElem? (i := 1039) (by decide +kernel), List.mem_of_getElem? (i := 1040) (by decide +kernel)⟩
theorem lw_p65 : lw_okq (⟨"WishPlacesModel", "isFirst", "(II)Z"⟩, 29) := ⟨⟨by decide +kernel, by decide +kernel⟩, List.mem_of_getElem? (i := 765) (by decide +kernel), List.mem_of_getElem? (i := 1043) (by decide +kernel), List.mem_of_getElem? (i := 1044) (by decide +kernel)⟩
theorem lw_p66 : lw_okq (⟨"WishPlacesModel", "findRing", "(II)I"⟩, 29) := ⟨⟨by decide +kernel, by decide +kernel⟩, List.mem_of_getElem? (i := 765) (by decide +kernel), List.mem_of_getElem? (i := 1069) (by decide +kernel), List.mem_of_getElem? (i := 1070) (by decide +kernel)⟩
theorem lw_p67 : lw_okq (⟨"WishPlacesModel", "findCan", "(IIII)Z"⟩, 29) := ⟨⟨by decide +kernel, by decide +kernel⟩, List.mem_of_getElem? (i := 765) (by decide +kernel), List.mem_of_getElem? (i := 1073) (by decide +kernel), List.mem_of_getElem? (i := 1074) (by decide +kernel)⟩
theorem lw_p68 : lw_okq (⟨"WishPlacesModel", "wants", "(IIII)Z"⟩, 29) := ⟨⟨by decide +kernel, by decide +kernel⟩, List.mem_of_getElem? (i := 765) (by decide +kernel), List.mem_of_getElem? (i := 1077) (by decide +kernel), List.mem_of_getElem? (i := 1078) (by decide +kernel)⟩
theorem lw_p69 : lw_okq (⟨"WishPlacesModel", "picks", "(II)I"⟩, 29) := ⟨⟨by decide +kernel, by decide +kernel⟩, List.mem_of_getElem? (i := 765) (by decide +kernel), List.mem_of_getElem? (i := 1085) (by decide +kernel), List.mem_of_getElem? (i := 1086) (by decide +kernel)⟩
theorem lw_p70 : lw_okq (⟨"WishPlacesModel", "findShares", "()V"⟩, 29) := ⟨⟨by decide +kernel, by decide +kernel⟩, List.mem_of_getElem? (i := 765) (by decide +kernel), List.mem_of_getElem? (i := 1093) (by decide +kernel), List.mem_of_getElem? (i := 1094) (by decide +kernel)⟩
theorem lw_p71 : lw_okq (⟨"WishPlacesModel", "eatsOf", "(I)I"⟩, 29) := ⟨⟨by decide +kernel, by decide +kernel⟩, List.mem_of_getElem? (i := 765) (by decide +kernel), List.mem_of_getElem? (i := 1097) (by decide +kernel), List.mem_of_getElem? (i := 1098) (by decide +kernel)⟩
theorem lw_p72 : lw_okq (⟨"WishPlacesModel", "eaters", "(I)I"⟩, 29) := ⟨⟨by decide +kernel, by decide +kernel⟩, List.mem_of_getElem? (i := 765) (by decide +kernel), List.mem_of_getElem? (i := 1101) (by decide +kernel), List.mem_of_getElem? (i := 1102) (by decide +kernel)⟩
theorem lw_p73 : lw_okq (⟨"WishPlacesModel", "countOf", "(I)I"⟩, 29) := ⟨⟨by decide +kernel, by decide +kernel⟩, List.mem_of_getElem? (i := 765) (by decide +kernel), List.mem_of_getElem? (i := 1113) (by decide +kernel), List.mem_of_getElem? (i := 1114) (by decide +kernel)⟩
def lw_privs_5 : List (MethodName × Nat) := [(⟨"WishPlacesModel", "mayStand", "(II)Z"⟩, 29), (⟨"WishPlacesModel", "isFirst", "(II)Z"⟩, 29), (⟨"WishPlacesModel", "findRing", "(II)I"⟩, 29), (⟨"WishPlacesModel", "findCan", "(IIII)Z"⟩, 29), (⟨"WishPlacesModel", "wants", "(IIII)Z"⟩, 29), (⟨"WishPlacesModel", "picks", "(II)I"⟩, 29), (⟨"WishPlacesModel", "findShares", "()V"⟩, 29), (⟨"WishPlacesModel", "eatsOf", "(I)I"⟩, 29), (⟨"WishPlacesModel", "eaters", "(I)I"⟩, 29), (⟨"WishPlacesModel", "countOf", "(I)I"⟩, 29)]
theorem lw_r5 : ∀ q ∈ lw_privs_5, lw_okq q := List.forall_mem_cons.mpr ⟨lw_p64, List.forall_mem_cons.mpr ⟨lw_p65, List.forall_mem_cons.mpr ⟨lw_p66, List.forall_mem_cons.mpr ⟨lw_p67, List.forall_mem_cons.mpr ⟨lw_p68, List.forall_mem_cons.mpr ⟨lw_p69, List.forall_mem_cons.mpr ⟨lw_p70, List.forall_mem_cons.mpr ⟨lw_p71, List.forall_mem_cons.mpr ⟨lw_p72, List.forall_mem_cons.mpr ⟨lw_p73, fun _ h => absurd h List.not_mem_nil⟩⟩⟩⟩⟩⟩⟩⟩⟩⟩
def lw_privs : List (MethodName × Nat) := lw_privs_1 ++ (lw_privs_2 ++ (lw_privs_3 ++ (lw_privs_4 ++ (lw_privs_5))))
def lw_tbl : List Cond := k2_sels lw_privs ++ tables_1
theorem lw_privs_ok : ∀ q ∈ lw_privs, lw_okq q := by
  show ∀ q ∈ lw_privs_1 ++ (lw_privs_2 ++ (lw_privs_3 ++ (lw_privs_4 ++ (lw_privs_5)))), lw_okq q
  exact List.forall_mem_append.mpr ⟨lw_r1, List.forall_mem_append.mpr ⟨lw_r2, List.forall_mem_append.mpr ⟨lw_r3, List.forall_mem_append.mpr ⟨lw_r4, lw_r5⟩⟩⟩⟩
-- ===== end of PART A; then your names; then what follows =====
def RX0 : String := "WishPlaces$Board"
def TX0 : u_T := fun k => match k with
  | 0 => ("WishPlaces$Board", "askers", "I", false)
  | 1 => ("WishPlaces$Board", "places", "I", false)
  | 2 => ("WishPlaces$Board", "age", "I", false)
  | 3 => ("WishPlaces$Board", "seats", "[I", true)
  | 4 => ("WishPlaces$Board", "wishes", "[I", true)
  | 5 => ("WishPlaces$Board", "likes", "[I", true)
  | _ => ("WishPlaces$Board", "told", "[I", true)
def tyX0 : Nat → FieldType := fun k => match k with
  | 0 => .int
  | 1 => .int
  | 2 => .int
  | 3 => .array .int
  | 4 => .array .int
  | 5 => .array .int
  | _ => .array .int
theorem nmX0 : ∀ a, a < 7 → ∀ b, b < 7 → a ≠ b → (TX0 a).2.1 ≠ (TX0 b).2.1 := by decide +kernel
theorem tyX0_ok : ∀ k, k < 7 → parseFieldDescriptor (TX0 k).2.2.1 = some (tyX0 k) := by decide +kernel
abbrev cX0_init : ByteArray := prog_2_method_1_code
def yX0_init : MethodName := ⟨RX0, "<init>", "()V"⟩
abbrev cX0_isAsker : ByteArray := prog_2_method_2_code
def yX0_isAsker : MethodName := ⟨RX0, "isAsker", "(I)Z"⟩
abbrev cX0_isPlace : ByteArray := prog_2_method_3_code
def yX0_isPlace : MethodName := ⟨RX0, "isPlace", "(I)Z"⟩
abbrev cX0_addAsker : ByteArray := prog_2_method_4_code
def yX0_addAsker : MethodName := ⟨RX0, "addAsker", "()I"⟩
abbrev cX0_addPlace : ByteArray := prog_2_method_5_code
def yX0_addPlace : MethodName := ⟨RX0, "addPlace", "(I)I"⟩
abbrev cX0_setSeats : ByteArray := prog_2_method_6_code
def yX0_setSeats : MethodName := ⟨RX0, "setSeats", "(II)I"⟩
abbrev cX0_setWish : ByteArray := prog_2_method_7_code
def yX0_setWish : MethodName := ⟨RX0, "setWish", "(III)I"⟩
abbrev cX0_takeBack : ByteArray := prog_2_method_8_code
def yX0_takeBack : MethodName := ⟨RX0, "takeBack", "(II)V"⟩
abbrev cX0_sortLikes : ByteArray := prog_2_method_9_code
def yX0_sortLikes : MethodName := ⟨RX0, "sortLikes", "(I)V"⟩
abbrev cX0_likeAt : ByteArray := prog_2_method_10_code
def yX0_likeAt : MethodName := ⟨RX0, "likeAt", "(II)I"⟩
abbrev cX0_wishOf : ByteArray := prog_2_method_11_code
def yX0_wishOf : MethodName := ⟨RX0, "wishOf", "(II)I"⟩
abbrev cX0_worthOf : ByteArray := prog_2_method_12_code
def yX0_worthOf : MethodName := ⟨RX0, "worthOf", "(II)I"⟩
abbrev cX0_firstWorth : ByteArray := prog_2_method_13_code
def yX0_firstWorth : MethodName := ⟨RX0, "firstWorth", "(I)I"⟩
abbrev cX0_isOpen : ByteArray := prog_2_method_14_code
def yX0_isOpen : MethodName := ⟨RX0, "isOpen", "(II)Z"⟩
abbrev cX0_toldOf : ByteArray := prog_2_method_15_code
def yX0_toldOf : MethodName := ⟨RX0, "toldOf", "(II)I"⟩
abbrev cX0_toldWorth : ByteArray := prog_2_method_16_code
def yX0_toldWorth : MethodName := ⟨RX0, "toldWorth", "(II)I"⟩
abbrev cX0_tell : ByteArray := prog_2_method_17_code
def yX0_tell : MethodName := ⟨RX0, "tell", "(III)V"⟩
abbrev cX0_holders : ByteArray := prog_2_method_18_code
def yX0_holders : MethodName := ⟨RX0, "holders", "(III)I"⟩
abbrev cX0_seatBits : ByteArray := prog_2_method_19_code
def yX0_seatBits : MethodName := ⟨RX0, "seatBits", "()I"⟩
abbrev cX0_allSeats : ByteArray := prog_2_method_20_code
def yX0_allSeats : MethodName := ⟨RX0, "allSeats", "()I"⟩
abbrev cX0_allWishes : ByteArray := prog_2_method_21_code
def yX0_allWishes : MethodName := ⟨RX0, "allWishes", "()I"⟩
abbrev cX0_digestOn : ByteArray := prog_2_method_22_code
def yX0_digestOn : MethodName := ⟨RX0, "digestOn", "(J)J"⟩
def RX1 : String := "WishPlaces$Eating"
def TX1 : u_T := fun k => match k with
  | 0 => ("WishPlaces$Eating", "whole", "J", false)
  | 1 => ("WishPlaces$Eating", "board", "LWishPlaces$Board;", true)
  | 2 => ("WishPlaces$Eating", "time", "J", false)
  | 3 => ("WishPlaces$Eating", "eaten", "[J", true)
  | 4 => ("WishPlaces$Eating", "rest", "[J", true)
  | 5 => ("WishPlaces$Eating", "eatsAt", "[I", true)
  | _ => ("WishPlaces$Eating", "eaters", "[I", true)
def tyX1 : Nat → FieldType := fun k => match k with
  | 0 => .long
  | 1 => .object "WishPlaces$Board"
  | 2 => .long
  | 3 => .array .long
  | 4 => .array .long
  | 5 => .array .int
  | _ => .array .int
theorem nmX1 : ∀ a, a < 7 → ∀ b, b < 7 → a ≠ b → (TX1 a).2.1 ≠ (TX1 b).2.1 := by decide +kernel
theorem tyX1_ok : ∀ k, k < 7 → parseFieldDescriptor (TX1 k).2.2.1 = some (tyX1 k) := by decide +kernel
abbrev cX1_init : ByteArray := prog_3_method_1_code
def yX1_init : MethodName := ⟨RX1, "<init>", "(LWishPlaces$Board;)V"⟩
abbrev cX1_run : ByteArray := prog_3_method_2_code
def yX1_run : MethodName := ⟨RX1, "run", "()V"⟩
abbrev cX1_seatAll : ByteArray := prog_3_method_3_code
def yX1_seatAll : MethodName := ⟨RX1, "seatAll", "()V"⟩
abbrev cX1_bestLeft : ByteArray := prog_3_method_4_code
def yX1_bestLeft : MethodName := ⟨RX1, "bestLeft", "(I)I"⟩
abbrev cX1_soonestUp : ByteArray := prog_3_method_5_code
def yX1_soonestUp : MethodName := ⟨RX1, "soonestUp", "()I"⟩
abbrev cX1_refine : ByteArray := prog_3_method_6_code
def yX1_refine : MethodName := ⟨RX1, "refine", "(I)V"⟩
abbrev cX1_eatFor : ByteArray := prog_3_method_7_code
def yX1_eatFor : MethodName := ⟨RX1, "eatFor", "(J)V"⟩
abbrev cX1_eatenBy : ByteArray := prog_3_method_8_code
def yX1_eatenBy : MethodName := ⟨RX1, "eatenBy", "(II)J"⟩
abbrev cX1_eatenUpTo : ByteArray := prog_3_method_9_code
def yX1_eatenUpTo : MethodName := ⟨RX1, "eatenUpTo", "(III)J"⟩
def RX2 : String := "WishPlaces$Lots"
def TX2 : u_T := fun k => match k with
  | 0 => ("WishPlaces$Lots", "board", "LWishPlaces$Board;", true)
  | 1 => ("WishPlaces$Lots", "answers", "[I", true)
  | 2 => ("WishPlaces$Lots", "age", "I", false)
  | 3 => ("WishPlaces$Lots", "memoKeys", "[J", true)
  | 4 => ("WishPlaces$Lots", "memos", "[I", true)
  | 5 => ("WishPlaces$Lots", "runs", "J", false)
  | 6 => ("WishPlaces$Lots", "wanting", "I", false)
  | _ => ("WishPlaces$Lots", "wanted", "I", false)
def tyX2 : Nat → FieldType := fun k => match k with
  | 0 => .object "WishPlaces$Board"
  | 1 => .array .int
  | 2 => .int
  | 3 => .array .long
  | 4 => .array .int
  | 5 => .long
  | 6 => .int
  | _ => .int
theorem nmX2 : ∀ a, a < 8 → ∀ b, b < 8 → a ≠ b → (TX2 a).2.1 ≠ (TX2 b).2.1 := by decide +kernel
theorem tyX2_ok : ∀ k, k < 8 → parseFieldDescriptor (TX2 k).2.2.1 = some (tyX2 k) := by decide +kernel
abbrev cX2_init : ByteArray := prog_4_method_1_code
def yX2_init : MethodName := ⟨RX2, "<init>", "(LWishPlaces$Board;)V"⟩
abbrev cX2_ordersFor : ByteArray := prog_4_method_2_code
def yX2_ordersFor : MethodName := ⟨RX2, "ordersFor", "(II)I"⟩
abbrev cX2_ordersFrom : ByteArray := prog_4_method_3_code
def yX2_ordersFrom : MethodName := ⟨RX2, "ordersFrom", "(LWishPlaces$Lots;III)I"⟩
abbrev cX2_ordersAfter : ByteArray := prog_4_method_4_code
def yX2_ordersAfter : MethodName := ⟨RX2, "ordersAfter", "(LWishPlaces$Lots;IIII)I"⟩
abbrev cX2_takes : ByteArray := prog_4_method_5_code
def yX2_takes : MethodName := ⟨RX2, "takes", "(II)I"⟩
def RX3 : String := "WishPlaces$Ring"
def TX3 : u_T := fun k => match k with
  | 0 => ("WishPlaces$Ring", "board", "LWishPlaces$Board;", true)
  | 1 => ("WishPlaces$Ring", "members", "[I", true)
  | 2 => ("WishPlaces$Ring", "length", "I", false)
  | _ => ("WishPlaces$Ring", "wants", "[I", true)
def tyX3 : Nat → FieldType := fun k => match k with
  | 0 => .object "WishPlaces$Board"
  | 1 => .array .int
  | 2 => .int
  | _ => .array .int
theorem nmX3 : ∀ a, a < 4 → ∀ b, b < 4 → a ≠ b → (TX3 a).2.1 ≠ (TX3 b).2.1 := by decide +kernel
theorem tyX3_ok : ∀ k, k < 4 → parseFieldDescriptor (TX3 k).2.2.1 = some (tyX3 k) := by decide +kernel
abbrev cX3_init : ByteArray := prog_5_method_1_code
def yX3_init : MethodName := ⟨RX3, "<init>", "(LWishPlaces$Board;)V"⟩
abbrev cX3_find : ByteArray := prog_5_method_2_code
def yX3_find : MethodName := ⟨RX3, "find", "(II)V"⟩
abbrev cX3_wantsOf : ByteArray := prog_5_method_3_code
def yX3_wantsOf : MethodName := ⟨RX3, "wantsOf", "(III)I"⟩
abbrev cX3_hasRing : ByteArray := prog_5_method_4_code
def yX3_hasRing : MethodName := ⟨RX3, "hasRing", "(I)Z"⟩
abbrev cX3_closes : ByteArray := prog_5_method_5_code
def yX3_closes : MethodName := ⟨RX3, "closes", "(LWishPlaces$Ring;III)Z"⟩
def RX4 : String := "WishPlaces$Search"
def TX4 : u_T := fun k => match k with
  | 0 => ("WishPlaces$Search", "board", "LWishPlaces$Board;", true)
  | 1 => ("WishPlaces$Search", "gains", "[I", true)
  | 2 => ("WishPlaces$Search", "solvedGains", "[I", true)
  | 3 => ("WishPlaces$Search", "askers", "I", false)
  | 4 => ("WishPlaces$Search", "places", "I", false)
  | 5 => ("WishPlaces$Search", "seatBits", "I", false)
  | 6 => ("WishPlaces$Search", "left", "[I", true)
  | 7 => ("WishPlaces$Search", "best", "[I", true)
  | 8 => ("WishPlaces$Search", "ways", "[I", true)
  | 9 => ("WishPlaces$Search", "next", "[I", true)
  | 10 => ("WishPlaces$Search", "firstOf", "[I", true)
  | 11 => ("WishPlaces$Search", "entries", "I", false)
  | 12 => ("WishPlaces$Search", "slots", "[I", true)
  | 13 => ("WishPlaces$Search", "clipAll", "[I", true)
  | 14 => ("WishPlaces$Search", "clipToOne", "[I", true)
  | _ => ("WishPlaces$Search", "clipToTwo", "[I", true)
def tyX4 : Nat → FieldType := fun k => match k with
  | 0 => .object "WishPlaces$Board"
  | 1 => .array .int
  | 2 => .array .int
  | 3 => .int
  | 4 => .int
  | 5 => .int
  | 6 => .array .int
  | 7 => .array .int
  | 8 => .array .int
  | 9 => .array .int
  | 10 => .array .int
  | 11 => .int
  | 12 => .array .int
  | 13 => .array .int
  | 14 => .array .int
  | _ => .array .int
theorem nmX4 : ∀ a, a < 16 → ∀ b, b < 16 → a ≠ b → (TX4 a).2.1 ≠ (TX4 b).2.1 := by decide +kernel
theorem tyX4_ok : ∀ k, k < 16 → parseFieldDescriptor (TX4 k).2.2.1 = some (tyX4 k) := by decide +kernel
abbrev cX4_init : ByteArray := prog_6_method_1_code
def yX4_init : MethodName := ⟨RX4, "<init>", "(LWishPlaces$Board;[I)V"⟩
abbrev cX4_setGain : ByteArray := prog_6_method_2_code
def yX4_setGain : MethodName := ⟨RX4, "setGain", "(III)V"⟩
abbrev cX4_bestGain : ByteArray := prog_6_method_3_code
def yX4_bestGain : MethodName := ⟨RX4, "bestGain", "()I"⟩
abbrev cX4_howMany : ByteArray := prog_6_method_4_code
def yX4_howMany : MethodName := ⟨RX4, "howMany", "()I"⟩
abbrev cX4_solve : ByteArray := prog_6_method_5_code
def yX4_solve : MethodName := ⟨RX4, "solve", "()V"⟩
abbrev cX4_isSolved : ByteArray := prog_6_method_6_code
def yX4_isSolved : MethodName := ⟨RX4, "isSolved", "()Z"⟩
abbrev cX4_setClips : ByteArray := prog_6_method_7_code
def yX4_setClips : MethodName := ⟨RX4, "setClips", "()V"⟩
abbrev cX4_setClip : ByteArray := prog_6_method_8_code
def yX4_setClip : MethodName := ⟨RX4, "setClip", "(III)V"⟩
abbrev cX4_spread : ByteArray := prog_6_method_9_code
def yX4_spread : MethodName := ⟨RX4, "spread", "()V"⟩
abbrev cX4_spreadEntry : ByteArray := prog_6_method_10_code
def yX4_spreadEntry : MethodName := ⟨RX4, "spreadEntry", "(II)V"⟩
abbrev cX4_entryOf : ByteArray := prog_6_method_11_code
def yX4_entryOf : MethodName := ⟨RX4, "entryOf", "(II)I"⟩
abbrev cX4_weigh : ByteArray := prog_6_method_12_code
def yX4_weigh : MethodName := ⟨RX4, "weigh", "()V"⟩
abbrev cX4_weighEntry : ByteArray := prog_6_method_13_code
def yX4_weighEntry : MethodName := ⟨RX4, "weighEntry", "(II)V"⟩
abbrev cX4_waysBy : ByteArray := prog_6_method_14_code
def yX4_waysBy : MethodName := ⟨RX4, "waysBy", "(III)I"⟩
abbrev cX4_pathTo : ByteArray := prog_6_method_15_code
def yX4_pathTo : MethodName := ⟨RX4, "pathTo", "(I[I)V"⟩
abbrev cX4_rankOf : ByteArray := prog_6_method_16_code
def yX4_rankOf : MethodName := ⟨RX4, "rankOf", "([I)I"⟩
abbrev cX4_childOf : ByteArray := prog_6_method_17_code
def yX4_childOf : MethodName := ⟨RX4, "childOf", "(II)I"⟩
def RX5 : String := "WishPlaces$Steady"
def TX5 : u_T := fun k => match k with
  | 0 => ("WishPlaces$Steady", "board", "LWishPlaces$Board;", true)
  | 1 => ("WishPlaces$Steady", "most", "I", false)
  | 2 => ("WishPlaces$Steady", "firsts", "[I", true)
  | _ => ("WishPlaces$Steady", "tight", "I", false)
def tyX5 : Nat → FieldType := fun k => match k with
  | 0 => .object "WishPlaces$Board"
  | 1 => .int
  | 2 => .array .int
  | _ => .int
theorem nmX5 : ∀ a, a < 4 → ∀ b, b < 4 → a ≠ b → (TX5 a).2.1 ≠ (TX5 b).2.1 := by decide +kernel
theorem tyX5_ok : ∀ k, k < 4 → parseFieldDescriptor (TX5 k).2.2.1 = some (tyX5 k) := by decide +kernel
abbrev cX5_init : ByteArray := prog_7_method_1_code
def yX5_init : MethodName := ⟨RX5, "<init>", "(LWishPlaces$Board;)V"⟩
abbrev cX5_learn : ByteArray := prog_7_method_2_code
def yX5_learn : MethodName := ⟨RX5, "learn", "()V"⟩
abbrev cX5_firstBits : ByteArray := prog_7_method_3_code
def yX5_firstBits : MethodName := ⟨RX5, "firstBits", "(I)I"⟩
abbrev cX5_weighCover : ByteArray := prog_7_method_4_code
def yX5_weighCover : MethodName := ⟨RX5, "weighCover", "(I)V"⟩
abbrev cX5_fillGains : ByteArray := prog_7_method_5_code
def yX5_fillGains : MethodName := ⟨RX5, "fillGains", "(LWishPlaces$Search;II)V"⟩
abbrev cX5_isTight : ByteArray := prog_7_method_6_code
def yX5_isTight : MethodName := ⟨RX5, "isTight", "(I)Z"⟩
abbrev cX5_secondWorth : ByteArray := prog_7_method_7_code
def yX5_secondWorth : MethodName := ⟨RX5, "secondWorth", "(I)I"⟩
def RX6 : String := "WishPlaces$Trade"
def TX6 : u_T := fun k => match k with
  | 0 => ("WishPlaces$Trade", "board", "LWishPlaces$Board;", true)
  | 1 => ("WishPlaces$Trade", "gets", "[I", true)
  | 2 => ("WishPlaces$Trade", "servedIn", "[I", true)
  | 3 => ("WishPlaces$Trade", "holds", "[I", true)
  | 4 => ("WishPlaces$Trade", "pointsAt", "[I", true)
  | _ => ("WishPlaces$Trade", "holderOf", "[I", true)
def tyX6 : Nat → FieldType := fun k => match k with
  | 0 => .object "WishPlaces$Board"
  | 1 => .array .int
  | 2 => .array .int
  | 3 => .array .int
  | 4 => .array .int
  | _ => .array .int
theorem nmX6 : ∀ a, a < 6 → ∀ b, b < 6 → a ≠ b → (TX6 a).2.1 ≠ (TX6 b).2.1 := by decide +kernel
theorem tyX6_ok : ∀ k, k < 6 → parseFieldDescriptor (TX6 k).2.2.1 = some (tyX6 k) := by decide +kernel
abbrev cX6_init : ByteArray := prog_8_method_1_code
def yX6_init : MethodName := ⟨RX6, "<init>", "(LWishPlaces$Board;)V"⟩
abbrev cX6_run : ByteArray := prog_8_method_2_code
def yX6_run : MethodName := ⟨RX6, "run", "(I)V"⟩
abbrev cX6_isLeft : ByteArray := prog_8_method_3_code
def yX6_isLeft : MethodName := ⟨RX6, "isLeft", "(I)Z"⟩
abbrev cX6_findHolders : ByteArray := prog_8_method_4_code
def yX6_findHolders : MethodName := ⟨RX6, "findHolders", "()V"⟩
abbrev cX6_pointAll : ByteArray := prog_8_method_5_code
def yX6_pointAll : MethodName := ⟨RX6, "pointAll", "()V"⟩
abbrev cX6_targetOf : ByteArray := prog_8_method_6_code
def yX6_targetOf : MethodName := ⟨RX6, "targetOf", "(I)I"⟩
abbrev cX6_serve : ByteArray := prog_8_method_7_code
def yX6_serve : MethodName := ⟨RX6, "serve", "(I)I"⟩
abbrev cX6_isOnRing : ByteArray := prog_8_method_8_code
def yX6_isOnRing : MethodName := ⟨RX6, "isOnRing", "(I)Z"⟩
def RX7 : String := "WishPlaces"
def TX7 : u_T := fun k => match k with
  | 0 => ("WishPlaces", "board", "LWishPlaces$Board;", true)
  | 1 => ("WishPlaces", "all", "LWishPlaces$Search;", true)
  | 2 => ("WishPlaces", "steady", "LWishPlaces$Search;", true)
  | 3 => ("WishPlaces", "aimed", "LWishPlaces$Search;", true)
  | 4 => ("WishPlaces", "steadiness", "LWishPlaces$Steady;", true)
  | 5 => ("WishPlaces", "trade", "LWishPlaces$Trade;", true)
  | 6 => ("WishPlaces", "ring", "LWishPlaces$Ring;", true)
  | 7 => ("WishPlaces", "lots", "LWishPlaces$Lots;", true)
  | 8 => ("WishPlaces", "eating", "LWishPlaces$Eating;", true)
  | 9 => ("WishPlaces", "row", "[I", true)
  | 10 => ("WishPlaces", "above", "J", false)
  | _ => ("WishPlaces", "below", "J", false)
def tyX7 : Nat → FieldType := fun k => match k with
  | 0 => .object "WishPlaces$Board"
  | 1 => .object "WishPlaces$Search"
  | 2 => .object "WishPlaces$Search"
  | 3 => .object "WishPlaces$Search"
  | 4 => .object "WishPlaces$Steady"
  | 5 => .object "WishPlaces$Trade"
  | 6 => .object "WishPlaces$Ring"
  | 7 => .object "WishPlaces$Lots"
  | 8 => .object "WishPlaces$Eating"
  | 9 => .array .int
  | 10 => .long
  | _ => .long
theorem nmX7 : ∀ a, a < 12 → ∀ b, b < 12 → a ≠ b → (TX7 a).2.1 ≠ (TX7 b).2.1 := by decide +kernel
theorem tyX7_ok : ∀ k, k < 12 → parseFieldDescriptor (TX7 k).2.2.1 = some (tyX7 k) := by decide +kernel
abbrev cX7_init : ByteArray := prog_1_method_1_code
def yX7_init : MethodName := ⟨RX7, "<init>", "()V"⟩
abbrev cX7_asker : ByteArray := prog_1_method_2_code
def yX7_asker : MethodName := ⟨RX7, "asker", "()I"⟩
abbrev cX7_place : ByteArray := prog_1_method_3_code
def yX7_place : MethodName := ⟨RX7, "place", "(I)I"⟩
abbrev cX7_seats : ByteArray := prog_1_method_4_code
def yX7_seats : MethodName := ⟨RX7, "seats", "(II)I"⟩
abbrev cX7_wish : ByteArray := prog_1_method_5_code
def yX7_wish : MethodName := ⟨RX7, "wish", "(III)I"⟩
abbrev cX7_worth : ByteArray := prog_1_method_6_code
def yX7_worth : MethodName := ⟨RX7, "worth", "(II)I"⟩
abbrev cX7_givings : ByteArray := prog_1_method_7_code
def yX7_givings : MethodName := ⟨RX7, "givings", "()J"⟩
abbrev cX7_givingAt : ByteArray := prog_1_method_8_code
def yX7_givingAt : MethodName := ⟨RX7, "givingAt", "(JI)I"⟩
abbrev cX7_give : ByteArray := prog_1_method_9_code
def yX7_give : MethodName := ⟨RX7, "give", "(III)I"⟩
abbrev cX7_become : ByteArray := prog_1_method_10_code
def yX7_become : MethodName := ⟨RX7, "become", "(II)I"⟩
abbrev cX7_has : ByteArray := prog_1_method_11_code
def yX7_has : MethodName := ⟨RX7, "has", "(II)I"⟩
abbrev cX7_placeOf : ByteArray := prog_1_method_12_code
def yX7_placeOf : MethodName := ⟨RX7, "placeOf", "(I)J"⟩
abbrev cX7_many : ByteArray := prog_1_method_13_code
def yX7_many : MethodName := ⟨RX7, "many", "(II)I"⟩
abbrev cX7_votes : ByteArray := prog_1_method_14_code
def yX7_votes : MethodName := ⟨RX7, "votes", "(II)I"⟩
abbrev cX7_margin : ByteArray := prog_1_method_15_code
def yX7_margin : MethodName := ⟨RX7, "margin", "(I)I"⟩
abbrev cX7_beater : ByteArray := prog_1_method_16_code
def yX7_beater : MethodName := ⟨RX7, "beater", "(II)I"⟩
abbrev cX7_factor : ByteArray := prog_1_method_17_code
def yX7_factor : MethodName := ⟨RX7, "factor", "(I)I"⟩
abbrev cX7_part : ByteArray := prog_1_method_18_code
def yX7_part : MethodName := ⟨RX7, "part", "(I)J"⟩
abbrev cX7_better : ByteArray := prog_1_method_19_code
def yX7_better : MethodName := ⟨RX7, "better", "(I)I"⟩
abbrev cX7_standing : ByteArray := prog_1_method_20_code
def yX7_standing : MethodName := ⟨RX7, "standing", "()J"⟩
abbrev cX7_standingAt : ByteArray := prog_1_method_21_code
def yX7_standingAt : MethodName := ⟨RX7, "standingAt", "(JI)I"⟩
abbrev cX7_standingMany : ByteArray := prog_1_method_22_code
def yX7_standingMany : MethodName := ⟨RX7, "standingMany", "(I)I"⟩
abbrev cX7_turn : ByteArray := prog_1_method_23_code
def yX7_turn : MethodName := ⟨RX7, "turn", "(II)I"⟩
abbrev cX7_round : ByteArray := prog_1_method_24_code
def yX7_round : MethodName := ⟨RX7, "round", "(II)I"⟩
abbrev cX7_leaving : ByteArray := prog_1_method_25_code
def yX7_leaving : MethodName := ⟨RX7, "leaving", "(III)I"⟩
abbrev cX7_chance : ByteArray := prog_1_method_26_code
def yX7_chance : MethodName := ⟨RX7, "chance", "(II)I"⟩
abbrev cX7_share : ByteArray := prog_1_method_27_code
def yX7_share : MethodName := ⟨RX7, "share", "(II)I"⟩
abbrev cX7_envies : ByteArray := prog_1_method_28_code
def yX7_envies : MethodName := ⟨RX7, "envies", "(II)I"⟩
abbrev cX7_count : ByteArray := prog_1_method_29_code
def yX7_count : MethodName := ⟨RX7, "count", "(I)I"⟩
abbrev cX7_digest : ByteArray := prog_1_method_30_code
def yX7_digest : MethodName := ⟨RX7, "digest", "()J"⟩
abbrev cX7_isTold : ByteArray := prog_1_method_31_code
def yX7_isTold : MethodName := ⟨RX7, "isTold", "(I)Z"⟩
abbrev cX7_isSeats : ByteArray := prog_1_method_32_code
def yX7_isSeats : MethodName := ⟨RX7, "isSeats", "(I)Z"⟩
abbrev cX7_isPlaceOrNone : ByteArray := prog_1_method_33_code
def yX7_isPlaceOrNone : MethodName := ⟨RX7, "isPlaceOrNone", "(I)Z"⟩
abbrev cX7_isFree : ByteArray := prog_1_method_34_code
def yX7_isFree : MethodName := ⟨RX7, "isFree", "(III)Z"⟩
abbrev cX7_isOrder : ByteArray := prog_1_method_35_code
def yX7_isOrder : MethodName := ⟨RX7, "isOrder", "(I)Z"⟩
abbrev cX7_copyTold : ByteArray := prog_1_method_36_code
def yX7_copyTold : MethodName := ⟨RX7, "copyTold", "(I)V"⟩
abbrev cX7_findRow : ByteArray := prog_1_method_37_code
def yX7_findRow : MethodName := ⟨RX7, "findRow", "(II)V"⟩
abbrev cX7_solveAll : ByteArray := prog_1_method_38_code
def yX7_solveAll : MethodName := ⟨RX7, "solveAll", "()V"⟩
abbrev cX7_findByWorth : ByteArray := prog_1_method_39_code
def yX7_findByWorth : MethodName := ⟨RX7, "findByWorth", "([I)V"⟩
abbrev cX7_solveVotes : ByteArray := prog_1_method_40_code
def yX7_solveVotes : MethodName := ⟨RX7, "solveVotes", "(III)V"⟩
abbrev cX7_fillTurn : ByteArray := prog_1_method_41_code
def yX7_fillTurn : MethodName := ⟨RX7, "fillTurn", "(II)V"⟩
abbrev cX7_countRisers : ByteArray := prog_1_method_42_code
def yX7_countRisers : MethodName := ⟨RX7, "countRisers", "(I)I"⟩
abbrev cX7_countFallers : ByteArray := prog_1_method_43_code
def yX7_countFallers : MethodName := ⟨RX7, "countFallers", "(I)I"⟩
abbrev cX7_canAnyRise : ByteArray := prog_1_method_44_code
def yX7_canAnyRise : MethodName := ⟨RX7, "canAnyRise", "(I)Z"⟩
abbrev cX7_findFactor : ByteArray := prog_1_method_45_code
def yX7_findFactor : MethodName := ⟨RX7, "findFactor", "(I)V"⟩
abbrev cX7_tellFraction : ByteArray := prog_1_method_46_code
def yX7_tellFraction : MethodName := ⟨RX7, "tellFraction", "(JJ)V"⟩
def RX8 : String := "WishPlacesModel"
def TX8 : u_T := fun k => match k with
  | 0 => ("WishPlacesModel", "askers", "I", false)
  | 1 => ("WishPlacesModel", "places", "I", false)
  | 2 => ("WishPlacesModel", "seats", "[I", true)
  | 3 => ("WishPlacesModel", "wish", "[I", true)
  | 4 => ("WishPlacesModel", "told", "[I", true)
  | 5 => ("WishPlacesModel", "above", "J", false)
  | 6 => ("WishPlacesModel", "below", "J", false)
  | 7 => ("WishPlacesModel", "weight", "[I", true)
  | 8 => ("WishPlacesModel", "full", "I", false)
  | 9 => ("WishPlacesModel", "count", "[J", true)
  | 10 => ("WishPlacesModel", "found", "[I", true)
  | 11 => ("WishPlacesModel", "cost", "[J", true)
  | 12 => ("WishPlacesModel", "least", "[J", true)
  | 13 => ("WishPlacesModel", "prefer", "[I", true)
  | 14 => ("WishPlacesModel", "next", "[I", true)
  | 15 => ("WishPlacesModel", "firsts", "I", false)
  | 16 => ("WishPlacesModel", "firstWorth", "[I", true)
  | 17 => ("WishPlacesModel", "secondWorth", "[I", true)
  | 18 => ("WishPlacesModel", "freed", "I", false)
  | 19 => ("WishPlacesModel", "stand", "[J", true)
  | 20 => ("WishPlacesModel", "served", "[I", true)
  | 21 => ("WishPlacesModel", "points", "[I", true)
  | 22 => ("WishPlacesModel", "can", "[Z", true)
  | 23 => ("WishPlacesModel", "ring", "[I", true)
  | 24 => ("WishPlacesModel", "ways", "[I", true)
  | 25 => ("WishPlacesModel", "whole", "J", false)
  | 26 => ("WishPlacesModel", "leftOf", "[J", true)
  | 27 => ("WishPlacesModel", "ate", "[J", true)
  | _ => ("WishPlacesModel", "eats", "[I", true)
def tyX8 : Nat → FieldType := fun k => match k with
  | 0 => .int
  | 1 => .int
  | 2 => .array .int
  | 3 => .array .int
  | 4 => .array .int
  | 5 => .long
  | 6 => .long
  | 7 => .array .int
  | 8 => .int
  | 9 => .array .long
  | 10 => .array .int
  | 11 => .array .long
  | 12 => .array .long
  | 13 => .array .int
  | 14 => .array .int
  | 15 => .int
  | 16 => .array .int
  | 17 => .array .int
  | 18 => .int
  | 19 => .array .long
  | 20 => .array .int
  | 21 => .array .int
  | 22 => .array .boolean
  | 23 => .array .int
  | 24 => .array .int
  | 25 => .long
  | 26 => .array .long
  | 27 => .array .long
  | _ => .array .int
theorem nmX8 : ∀ a, a < 29 → ∀ b, b < 29 → a ≠ b → (TX8 a).2.1 ≠ (TX8 b).2.1 := by decide +kernel
theorem tyX8_ok : ∀ k, k < 29 → parseFieldDescriptor (TX8 k).2.2.1 = some (tyX8 k) := by decide +kernel
abbrev cX8_in : ByteArray := prog_10_method_2_code
def yX8_in : MethodName := ⟨RX8, "in", "(III)Z"⟩
abbrev cX8_init : ByteArray := prog_10_method_3_code
def yX8_init : MethodName := ⟨RX8, "<init>", "()V"⟩
abbrev cX8_divisor : ByteArray := prog_10_method_4_code
def yX8_divisor : MethodName := ⟨RX8, "divisor", "(JJ)J"⟩
abbrev cX8_tells : ByteArray := prog_10_method_5_code
def yX8_tells : MethodName := ⟨RX8, "tells", "(JJ)I"⟩
abbrev cX8_isAsker : ByteArray := prog_10_method_6_code
def yX8_isAsker : MethodName := ⟨RX8, "isAsker", "(I)Z"⟩
abbrev cX8_isPlace : ByteArray := prog_10_method_7_code
def yX8_isPlace : MethodName := ⟨RX8, "isPlace", "(I)Z"⟩
abbrev cX8_isTold : ByteArray := prog_10_method_8_code
def yX8_isTold : MethodName := ⟨RX8, "isTold", "(I)Z"⟩
abbrev cX8_asker : ByteArray := prog_10_method_9_code
def yX8_asker : MethodName := ⟨RX8, "asker", "()I"⟩
abbrev cX8_place : ByteArray := prog_10_method_10_code
def yX8_place : MethodName := ⟨RX8, "place", "(I)I"⟩
abbrev cX8_had : ByteArray := prog_10_method_11_code
def yX8_had : MethodName := ⟨RX8, "had", "(II)I"⟩
abbrev cX8_seats : ByteArray := prog_10_method_12_code
def yX8_seats : MethodName := ⟨RX8, "seats", "(II)I"⟩
abbrev cX8_wish : ByteArray := prog_10_method_13_code
def yX8_wish : MethodName := ⟨RX8, "wish", "(III)I"⟩
abbrev cX8_worthOf : ByteArray := prog_10_method_14_code
def yX8_worthOf : MethodName := ⟨RX8, "worthOf", "(II)I"⟩
abbrev cX8_worth : ByteArray := prog_10_method_15_code
def yX8_worth : MethodName := ⟨RX8, "worth", "(II)I"⟩
abbrev cX8_findWeights : ByteArray := prog_10_method_16_code
def yX8_findWeights : MethodName := ⟨RX8, "findWeights", "()V"⟩
abbrev cX8_takes : ByteArray := prog_10_method_17_code
def yX8_takes : MethodName := ⟨RX8, "takes", "(III)I"⟩
abbrev cX8_findCount : ByteArray := prog_10_method_18_code
def yX8_findCount : MethodName := ⟨RX8, "findCount", "()V"⟩
abbrev cX8_givings : ByteArray := prog_10_method_19_code
def yX8_givings : MethodName := ⟨RX8, "givings", "()J"⟩
abbrev cX8_givingAt : ByteArray := prog_10_method_20_code
def yX8_givingAt : MethodName := ⟨RX8, "givingAt", "(JI)I"⟩
abbrev cX8_give : ByteArray := prog_10_method_21_code
def yX8_give : MethodName := ⟨RX8, "give", "(III)I"⟩
abbrev cX8_findLeast : ByteArray := prog_10_method_22_code
def yX8_findLeast : MethodName := ⟨RX8, "findLeast", "()J"⟩
abbrev cX8_power : ByteArray := prog_10_method_23_code
def yX8_power : MethodName := ⟨RX8, "power", "(I)J"⟩
abbrev cX8_costBy : ByteArray := prog_10_method_24_code
def yX8_costBy : MethodName := ⟨RX8, "costBy", "(II)J"⟩
abbrev cX8_findBy : ByteArray := prog_10_method_25_code
def yX8_findBy : MethodName := ⟨RX8, "findBy", "(I)V"⟩
abbrev cX8_findBeater : ByteArray := prog_10_method_26_code
def yX8_findBeater : MethodName := ⟨RX8, "findBeater", "(IZ)I"⟩
abbrev cX8_become : ByteArray := prog_10_method_27_code
def yX8_become : MethodName := ⟨RX8, "become", "(II)I"⟩
abbrev cX8_has : ByteArray := prog_10_method_28_code
def yX8_has : MethodName := ⟨RX8, "has", "(II)I"⟩
abbrev cX8_placeOf : ByteArray := prog_10_method_29_code
def yX8_placeOf : MethodName := ⟨RX8, "placeOf", "(I)J"⟩
abbrev cX8_many : ByteArray := prog_10_method_30_code
def yX8_many : MethodName := ⟨RX8, "many", "(II)I"⟩
abbrev cX8_votes : ByteArray := prog_10_method_31_code
def yX8_votes : MethodName := ⟨RX8, "votes", "(II)I"⟩
abbrev cX8_margin : ByteArray := prog_10_method_32_code
def yX8_margin : MethodName := ⟨RX8, "margin", "(I)I"⟩
abbrev cX8_beater : ByteArray := prog_10_method_33_code
def yX8_beater : MethodName := ⟨RX8, "beater", "(II)I"⟩
abbrev cX8_better : ByteArray := prog_10_method_34_code
def yX8_better : MethodName := ⟨RX8, "better", "(I)I"⟩
abbrev cX8_findPrefer : ByteArray := prog_10_method_35_code
def yX8_findPrefer : MethodName := ⟨RX8, "findPrefer", "(I)V"⟩
abbrev cX8_factor : ByteArray := prog_10_method_36_code
def yX8_factor : MethodName := ⟨RX8, "factor", "(I)I"⟩
abbrev cX8_part : ByteArray := prog_10_method_37_code
def yX8_part : MethodName := ⟨RX8, "part", "(I)J"⟩
abbrev cX8_mostFirsts : ByteArray := prog_10_method_38_code
def yX8_mostFirsts : MethodName := ⟨RX8, "mostFirsts", "(I)I"⟩
abbrev cX8_findStanding : ByteArray := prog_10_method_39_code
def yX8_findStanding : MethodName := ⟨RX8, "findStanding", "()V"⟩
abbrev cX8_isFirst : ByteArray := prog_10_method_40_code
def yX8_isFirst : MethodName := ⟨RX8, "isFirst", "(II)Z"⟩
abbrev cX8_mayStand : ByteArray := prog_10_method_41_code
def yX8_mayStand : MethodName := ⟨RX8, "mayStand", "(II)Z"⟩
abbrev cX8_standAt : ByteArray := prog_10_method_42_code
def yX8_standAt : MethodName := ⟨RX8, "standAt", "(III)I"⟩
abbrev cX8_findStand : ByteArray := prog_10_method_43_code
def yX8_findStand : MethodName := ⟨RX8, "findStand", "()V"⟩
abbrev cX8_standOn : ByteArray := prog_10_method_44_code
def yX8_standOn : MethodName := ⟨RX8, "standOn", "(IIII)J"⟩
abbrev cX8_standing : ByteArray := prog_10_method_45_code
def yX8_standing : MethodName := ⟨RX8, "standing", "()J"⟩
abbrev cX8_standingAt : ByteArray := prog_10_method_46_code
def yX8_standingAt : MethodName := ⟨RX8, "standingAt", "(JI)I"⟩
abbrev cX8_standingMany : ByteArray := prog_10_method_47_code
def yX8_standingMany : MethodName := ⟨RX8, "standingMany", "(I)I"⟩
abbrev cX8_turn : ByteArray := prog_10_method_48_code
def yX8_turn : MethodName := ⟨RX8, "turn", "(II)I"⟩
abbrev cX8_findTrade : ByteArray := prog_10_method_49_code
def yX8_findTrade : MethodName := ⟨RX8, "findTrade", "(I)V"⟩
abbrev cX8_isRing : ByteArray := prog_10_method_50_code
def yX8_isRing : MethodName := ⟨RX8, "isRing", "(I)Z"⟩
abbrev cX8_pointsAt : ByteArray := prog_10_method_51_code
def yX8_pointsAt : MethodName := ⟨RX8, "pointsAt", "(III)I"⟩
abbrev cX8_round : ByteArray := prog_10_method_52_code
def yX8_round : MethodName := ⟨RX8, "round", "(II)I"⟩
abbrev cX8_wants : ByteArray := prog_10_method_53_code
def yX8_wants : MethodName := ⟨RX8, "wants", "(IIII)Z"⟩
abbrev cX8_findCan : ByteArray := prog_10_method_54_code
def yX8_findCan : MethodName := ⟨RX8, "findCan", "(IIII)Z"⟩
abbrev cX8_findRing : ByteArray := prog_10_method_55_code
def yX8_findRing : MethodName := ⟨RX8, "findRing", "(II)I"⟩
abbrev cX8_leaving : ByteArray := prog_10_method_56_code
def yX8_leaving : MethodName := ⟨RX8, "leaving", "(III)I"⟩
abbrev cX8_picks : ByteArray := prog_10_method_57_code
def yX8_picks : MethodName := ⟨RX8, "picks", "(II)I"⟩
abbrev cX8_chance : ByteArray := prog_10_method_58_code
def yX8_chance : MethodName := ⟨RX8, "chance", "(II)I"⟩
abbrev cX8_eatsOf : ByteArray := prog_10_method_59_code
def yX8_eatsOf : MethodName := ⟨RX8, "eatsOf", "(I)I"⟩
abbrev cX8_eaters : ByteArray := prog_10_method_60_code
def yX8_eaters : MethodName := ⟨RX8, "eaters", "(I)I"⟩
abbrev cX8_findShares : ByteArray := prog_10_method_61_code
def yX8_findShares : MethodName := ⟨RX8, "findShares", "()V"⟩
abbrev cX8_share : ByteArray := prog_10_method_62_code
def yX8_share : MethodName := ⟨RX8, "share", "(II)I"⟩
abbrev cX8_envies : ByteArray := prog_10_method_63_code
def yX8_envies : MethodName := ⟨RX8, "envies", "(II)I"⟩
abbrev cX8_countOf : ByteArray := prog_10_method_64_code
def yX8_countOf : MethodName := ⟨RX8, "countOf", "(I)I"⟩
abbrev cX8_count : ByteArray := prog_10_method_65_code
def yX8_count : MethodName := ⟨RX8, "count", "(I)I"⟩
abbrev cX8_digest : ByteArray := prog_10_method_66_code
def yX8_digest : MethodName := ⟨RX8, "digest", "()J"⟩
def RJ10 : String := "java/lang/System"
def TJ10 : u_T := fun k => match k with
  | _ => ("", "", "", false)
def RL : String := "WishPlacesLaw"
abbrev cL_law : ByteArray := code
def yL_law : MethodName := ⟨RL, "law", "([I)Z"⟩
abbrev vwCl : List vw_C := [(RX0, TX0, 7), (RX1, TX1, 7), (RX2, TX2, 8), (RX3, TX3, 4), (RX4, TX4, 16), (RX5, TX5, 4), (RX6, TX6, 6), (RX7, TX7, 12), (RX8, TX8, 29)]
