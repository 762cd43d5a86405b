-- ===== PART A: goes FIRST, ahead of the names: the tables' words, and 'selects' of the private methods out of them =====
/-- a private method of a class that the tables say can be made, by its rows of tables_1 -/
def lw_okq (q : MethodName × Nat) : Prop := (q.1.cls ≠ "java/lang/invoke/MethodHandle" ∧ q.1.cls ≠ "java/lang/invoke/VarHandle") ∧ Cond.instantiable q.1.cls q.2 ∈ tables_1 ∧ Cond.privateMethod q.1 ∈ tables_1 ∧ Cond.instanceMethod q.1 ∈ tables_1
theorem lw_p0 : lw_okq (⟨"TextMorph", "save", "()V"⟩, 8) := ⟨⟨by decide +kernel, by decide +kernel⟩, List.mem_of_getElem? (i := 21) (by decide +kernel), List.mem_of_getElem? (i := 253) (by decide +kernel), List.mem_of_getElem? (i := 254) (by decide +kernel)⟩
theorem lw_p1 : lw_okq (⟨"TextMorph", "refresh", "()V"⟩, 8) := ⟨⟨by decide +kernel, by decide +kernel⟩, List.mem_of_getElem? (i := 21) (by decide +kernel), List.mem_of_getElem? (i := 286) (by decide +kernel), List.mem_of_getElem? (i := 287) (by decide +kernel)⟩
theorem lw_p2 : lw_okq (⟨"TextMorph$Pairs", "unpairAll", "()V"⟩, 7) := ⟨⟨by decide +kernel, by decide +kernel⟩, List.mem_of_getElem? (i := 87) (by decide +kernel), List.mem_of_getElem? (i := 298) (by decide +kernel), List.mem_of_getElem? (i := 299) (by decide +kernel)⟩
theorem lw_p3 : lw_okq (⟨"TextMorph$Pairs", "pairCommon", "()V"⟩, 7) := ⟨⟨by decide +kernel, by decide +kernel⟩, List.mem_of_getElem? (i := 87) (by decide +kernel), List.mem_of_getElem? (i := 304) (by decide +kernel), List.mem_of_getElem? (i := 305) (by decide +kernel)⟩
theorem lw_p4 : lw_okq (⟨"TextMorph$Pairs", "measureLongest", "()V"⟩, 7) := ⟨⟨by decide +kernel, by decide +kernel⟩, List.mem_of_getElem? (i := 87) (by decide +kernel), List.mem_of_getElem? (i := 308) (by decide +kernel), List.mem_of_getElem? (i := 309) (by decide +kernel)⟩
theorem lw_p5 : lw_okq (⟨"TextMorph$Pairs", "partnerThatLeaves", "(III)I"⟩, 7) := ⟨⟨by decide +kernel, by decide +kernel⟩, List.mem_of_getElem? (i := 87) (by decide +kernel), List.mem_of_getElem? (i := 319) (by decide +kernel), List.mem_of_getElem? (i := 320) (by decide +kernel)⟩
theorem lw_p6 : lw_okq (⟨"TextMorph$Pairs", "pair", "(III)V"⟩, 7) := ⟨⟨by decide +kernel, by decide +kernel⟩, List.mem_of_getElem? (i := 87) (by decide +kernel), List.mem_of_getElem? (i := 323) (by decide +kernel), List.mem_of_getElem? (i := 324) (by decide +kernel)⟩
theorem lw_p7 : lw_okq (⟨"TextMorph$Pairs", "pairNearest", "(II)Z"⟩, 7) := ⟨⟨by decide +kernel, by decide +kernel⟩, List.mem_of_getElem? (i := 87) (by decide +kernel), List.mem_of_getElem? (i := 327) (by decide +kernel), List.mem_of_getElem? (i := 328) (by decide +kernel)⟩
theorem lw_p8 : lw_okq (⟨"TextMorph$Pairs", "mayBePaired", "(III)Z"⟩, 7) := ⟨⟨by decide +kernel, by decide +kernel⟩, List.mem_of_getElem? (i := 87) (by decide +kernel), List.mem_of_getElem? (i := 331) (by decide +kernel), List.mem_of_getElem? (i := 332) (by decide +kernel)⟩
theorem lw_p9 : lw_okq (⟨"TextMorph$Motion", "start", "()V"⟩, 13) := ⟨⟨by decide +kernel, by decide +kernel⟩, List.mem_of_getElem? (i := 123) (by decide +kernel), List.mem_of_getElem? (i := 354) (by decide +kernel), List.mem_of_getElem? (i := 355) (by decide +kernel)⟩
theorem lw_p10 : lw_okq (⟨"TextMorph$Motion", "isAway", "(I)Z"⟩, 13) := ⟨⟨by decide +kernel, by decide +kernel⟩, List.mem_of_getElem? (i := 123) (by decide +kernel), List.mem_of_getElem? (i := 360) (by decide +kernel), List.mem_of_getElem? (i := 361) (by decide +kernel)⟩
theorem lw_p11 : lw_okq (⟨"TextMorph$Motion", "record", "(I)V"⟩, 13) := ⟨⟨by decide +kernel, by decide +kernel⟩, List.mem_of_getElem? (i := 123) (by decide +kernel), List.mem_of_getElem? (i := 364) (by decide +kernel), List.mem_of_getElem? (i := 365) (by decide +kernel)⟩
theorem lw_p12 : lw_okq (⟨"TextMorph$Motion", "moveOrHold", "(II)V"⟩, 13) := ⟨⟨by decide +kernel, by decide +kernel⟩, List.mem_of_getElem? (i := 123) (by decide +kernel), List.mem_of_getElem? (i := 369) (by decide +kernel), List.mem_of_getElem? (i := 370) (by decide +kernel)⟩
theorem lw_p13 : lw_okq (⟨"TextMorph$Motion", "nextCell", "(II)I"⟩, 13) := ⟨⟨by decide +kernel, by decide +kernel⟩, List.mem_of_getElem? (i := 123) (by decide +kernel), List.mem_of_getElem? (i := 373) (by decide +kernel), List.mem_of_getElem? (i := 374) (by decide +kernel)⟩
theorem lw_p14 : lw_okq (⟨"TextMorph$Motion", "goesAlongRow", "(II)Z"⟩, 13) := ⟨⟨by decide +kernel, by decide +kernel⟩, List.mem_of_getElem? (i := 123) (by decide +kernel), List.mem_of_getElem? (i := 378) (by decide +kernel), List.mem_of_getElem? (i := 379) (by decide +kernel)⟩
theorem lw_p15 : lw_okq (⟨"TextMorph", "mixNumbers", "(J)J"⟩, 8) := ⟨⟨by decide +kernel, by decide +kernel⟩, List.mem_of_getElem? (i := 21) (by decide +kernel), List.mem_of_getElem? (i := 416) (by decide +kernel), List.mem_of_getElem? (i := 417) (by decide +kernel)⟩
def lw_privs_1 : List (MethodName × Nat) := [(⟨"TextMorph", "save", "()V"⟩, 8), (⟨"TextMorph", "refresh", "()V"⟩, 8), (⟨"TextMorph$Pairs", "unpairAll", "()V"⟩, 7), (⟨"TextMorph$Pairs", "pairCommon", "()V"⟩, 7), (⟨"TextMorph$Pairs", "measureLongest", "()V"⟩, 7), (⟨"TextMorph$Pairs", "partnerThatLeaves", "(III)I"⟩, 7), (⟨"TextMorph$Pairs", "pair", "(III)V"⟩, 7), (⟨"TextMorph$Pairs", "pairNearest", "(II)Z"⟩, 7), (⟨"TextMorph$Pairs", "mayBePaired", "(III)Z"⟩, 7), (⟨"TextMorph$Motion", "start", "()V"⟩, 13), (⟨"TextMorph$Motion", "isAway", "(I)Z"⟩, 13), (⟨"TextMorph$Motion", "record", "(I)V"⟩, 13), (⟨"TextMorph$Motion", "moveOrHold", "(II)V"⟩, 13), (⟨"TextMorph$Motion", "nextCell", "(II)I"⟩, 13), (⟨"TextMorph$Motion", "goesAlongRow", "(II)Z"⟩, 13), (⟨"TextMorph", "mixNumbers", "(J)J"⟩, 8)]
theorem lw_r1 : ∀ q ∈ lw_privs_1, lw_okq q := List.forall_mem_cons.mpr ⟨lw_p0, List.forall_mem_cons.mpr ⟨lw_p1, List.forall_mem_cons.mpr ⟨lw_p2, List.forall_mem_cons.mpr ⟨lw_p3, List.forall_mem_cons.mpr ⟨lw_p4, List.forall_mem_cons.mpr ⟨lw_p5, List.forall_mem_cons.mpr ⟨lw_p6, List.forall_mem_cons.mpr ⟨lw_p7, List.forall_mem_cons.mpr ⟨lw_p8, List.forall_mem_cons.mpr ⟨lw_p9, List.forall_mem_cons.mpr ⟨lw_p10, List.forall_mem_cons.mpr ⟨lw_p11, List.forall_mem_cons.mpr ⟨lw_p12, List.forall_mem_cons.mpr ⟨lw_p13, List.forall_mem_cons.mpr ⟨lw_p14, List.forall_mem_cons.mpr ⟨lw_p15, fun _ h => absurd h List.not_mem_nil⟩⟩⟩⟩⟩⟩⟩⟩⟩⟩⟩⟩⟩⟩⟩⟩
theorem lw_p16 : lw_okq (⟨"TextMorph$Morph", "distancesOfAll", "()I"⟩, 9) := ⟨⟨by decide +kernel, by decide +kernel⟩, List.mem_of_getElem? (i := 81) (by decide +kernel), List.mem_of_getElem? (i := 425) (by decide +kernel), List.mem_of_getElem? (i := 426) (by decide +kernel)⟩
theorem lw_p17 : lw_okq (⟨"TextMorph$Morph", "vanishes", "(I)Z"⟩, 9) := ⟨⟨by decide +kernel, by decide +kernel⟩, List.mem_of_getElem? (i := 81) (by decide +kernel), List.mem_of_getElem? (i := 429) (by decide +kernel), List.mem_of_getElem? (i := 430) (by decide +kernel)⟩
theorem lw_p18 : lw_okq (⟨"TextMorph$Morph", "stepsOfAll", "()I"⟩, 9) := ⟨⟨by decide +kernel, by decide +kernel⟩, List.mem_of_getElem? (i := 81) (by decide +kernel), List.mem_of_getElem? (i := 434) (by decide +kernel), List.mem_of_getElem? (i := 435) (by decide +kernel)⟩
theorem lw_p19 : lw_okq (⟨"TextMorph$Morph", "steps", "(I)I"⟩, 9) := ⟨⟨by decide +kernel, by decide +kernel⟩, List.mem_of_getElem? (i := 81) (by decide +kernel), List.mem_of_getElem? (i := 438) (by decide +kernel), List.mem_of_getElem? (i := 439) (by decide +kernel)⟩
theorem lw_p20 : lw_okq (⟨"TextMorph", "mixLetters", "(J)J"⟩, 8) := ⟨⟨by decide +kernel, by decide +kernel⟩, List.mem_of_getElem? (i := 21) (by decide +kernel), List.mem_of_getElem? (i := 449) (by decide +kernel), List.mem_of_getElem? (i := 450) (by decide +kernel)⟩
theorem lw_p21 : lw_okq (⟨"TextMorph", "mixFrames", "(J)J"⟩, 8) := ⟨⟨by decide +kernel, by decide +kernel⟩, List.mem_of_getElem? (i := 21) (by decide +kernel), List.mem_of_getElem? (i := 462) (by decide +kernel), List.mem_of_getElem? (i := 463) (by decide +kernel)⟩
theorem lw_p22 : lw_okq (⟨"TextMorph$Morph", "cellsWithLetters", "(I)I"⟩, 9) := ⟨⟨by decide +kernel, by decide +kernel⟩, List.mem_of_getElem? (i := 81) (by decide +kernel), List.mem_of_getElem? (i := 470) (by decide +kernel), List.mem_of_getElem? (i := 471) (by decide +kernel)⟩
theorem lw_p23 : lw_okq (⟨"TextMorph$Morph", "show", "(I[I)V"⟩, 9) := ⟨⟨by decide +kernel, by decide +kernel⟩, List.mem_of_getElem? (i := 81) (by decide +kernel), List.mem_of_getElem? (i := 474) (by decide +kernel), List.mem_of_getElem? (i := 475) (by decide +kernel)⟩
theorem lw_p24 : lw_okq (⟨"TextMorph$Morph", "isGone", "(II)Z"⟩, 9) := ⟨⟨by decide +kernel, by decide +kernel⟩, List.mem_of_getElem? (i := 81) (by decide +kernel), List.mem_of_getElem? (i := 483) (by decide +kernel), List.mem_of_getElem? (i := 484) (by decide +kernel)⟩
theorem lw_p25 : lw_okq (⟨"TextMorph$Morph", "movedBy", "(I)I"⟩, 9) := ⟨⟨by decide +kernel, by decide +kernel⟩, List.mem_of_getElem? (i := 81) (by decide +kernel), List.mem_of_getElem? (i := 487) (by decide +kernel), List.mem_of_getElem? (i := 488) (by decide +kernel)⟩
theorem lw_p26 : lw_okq (⟨"TextMorph$Morph", "pieceCode", "(II)I"⟩, 9) := ⟨⟨by decide +kernel, by decide +kernel⟩, List.mem_of_getElem? (i := 81) (by decide +kernel), List.mem_of_getElem? (i := 499) (by decide +kernel), List.mem_of_getElem? (i := 500) (by decide +kernel)⟩
theorem lw_p27 : lw_okq (⟨"TextMorph$Morph", "cellsThatDiffer", "(I)I"⟩, 9) := ⟨⟨by decide +kernel, by decide +kernel⟩, List.mem_of_getElem? (i := 81) (by decide +kernel), List.mem_of_getElem? (i := 508) (by decide +kernel), List.mem_of_getElem? (i := 509) (by decide +kernel)⟩
theorem lw_p28 : lw_okq (⟨"TextMorph$Morph", "sharedCells", "(I)I"⟩, 9) := ⟨⟨by decide +kernel, by decide +kernel⟩, List.mem_of_getElem? (i := 81) (by decide +kernel), List.mem_of_getElem? (i := 516) (by decide +kernel), List.mem_of_getElem? (i := 517) (by decide +kernel)⟩
theorem lw_p29 : lw_okq (⟨"TextMorph$Morph", "piecesLeft", "(I)I"⟩, 9) := ⟨⟨by decide +kernel, by decide +kernel⟩, List.mem_of_getElem? (i := 81) (by decide +kernel), List.mem_of_getElem? (i := 520) (by decide +kernel), List.mem_of_getElem? (i := 521) (by decide +kernel)⟩
theorem lw_p30 : lw_okq (⟨"java/lang/Throwable", "fillInStackTrace", "(I)Ljava/lang/Throwable;"⟩, 6) := ⟨⟨by decide +kernel, by decide +kernel⟩, List.mem_of_getElem? (i := 586) (by decide +kernel), List.mem_of_getElem? (i := 584) (by decide +kernel), List.mem_of_getElem? (i := 585) (by decide +kernel)⟩
theorem lw_p31 : lw_okq (⟨"TextMorph$Text", "numberLetters", "()V"⟩, 3) := ⟨⟨by decide +kernel, by decide +kernel⟩, List.mem_of_getElem? (i := 35) (by decide +kernel), List.mem_of_getElem? (i := 655) (by decide +kernel), List.mem_of_getElem? (i := 656) (by decide +kernel)⟩
def lw_privs_2 : List (MethodName × Nat) := [(⟨"TextMorph$Morph", "distancesOfAll", "()I"⟩, 9), (⟨"TextMorph$Morph", "vanishes", "(I)Z"⟩, 9), (⟨"TextMorph$Morph", "stepsOfAll", "()I"⟩, 9), (⟨"TextMorph$Morph", "steps", "(I)I"⟩, 9), (⟨"TextMorph", "mixLetters", "(J)J"⟩, 8), (⟨"TextMorph", "mixFrames", "(J)J"⟩, 8), (⟨"TextMorph$Morph", "cellsWithLetters", "(I)I"⟩, 9), (⟨"TextMorph$Morph", "show", "(I[I)V"⟩, 9), (⟨"TextMorph$Morph", "isGone", "(II)Z"⟩, 9), (⟨"TextMorph$Morph", "movedBy", "(I)I"⟩, 9), (⟨"TextMorph$Morph", "pieceCode", "(II)I"⟩, 9), (⟨"TextMorph$Morph", "cellsThatDiffer", "(I)I"⟩, 9), (⟨"TextMorph$Morph", "sharedCells", "(I)I"⟩, 9), (⟨"TextMorph$Morph", "piecesLeft", "(I)I"⟩, 9), (⟨"java/lang/Throwable", "fillInStackTrace", "(I)Ljava/lang/Throwable;"⟩, 6), (⟨"TextMorph$Text", "numberLetters", "()V"⟩, 3)]
theorem lw_r2 : ∀ q ∈ lw_privs_2, lw_okq q := List.forall_mem_cons.mpr ⟨lw_p16, List.forall_mem_cons.mpr ⟨lw_p17, List.forall_mem_cons.mpr ⟨lw_p18, List.forall_mem_cons.mpr ⟨lw_p19, List.forall_mem_cons.mpr ⟨lw_p20, List.forall_mem_cons.mpr ⟨lw_p21, List.forall_mem_cons.mpr ⟨lw_p22, List.forall_mem_cons.mpr ⟨lw_p23, List.forall_mem_cons.mpr ⟨lw_p24, List.forall_mem_cons.mpr ⟨lw_p25, List.forall_mem_cons.mpr ⟨lw_p26, List.forall_mem_cons.mpr ⟨lw_p27, List.forall_mem_cons.mpr ⟨lw_p28, List.forall_mem_cons.mpr ⟨lw_p29, List.forall_mem_cons.mpr ⟨lw_p30, List.forall_mem_cons.mpr ⟨lw_p31, fun _ h => absurd h List.not_mem_nil⟩⟩⟩⟩⟩⟩⟩⟩⟩⟩⟩⟩⟩⟩⟩⟩
theorem lw_p32 : lw_okq (⟨"TextMorph", "isPiece", "(I)Z"⟩, 8) := ⟨⟨by decide +kernel, by decide +kernel⟩, List.mem_of_getElem? (i := 21) (by decide +kernel), List.mem_of_getElem? (i := 726) (by decide +kernel), List.mem_of_getElem? (i := 727) (by decide +kernel)⟩
theorem lw_p33 : lw_okq (⟨"TextMorph", "isFrame", "(I)Z"⟩, 8) := ⟨⟨by decide +kernel, by decide +kernel⟩, List.mem_of_getElem? (i := 21) (by decide +kernel), List.mem_of_getElem? (i := 738) (by decide +kernel), List.mem_of_getElem? (i := 739) (by decide +kernel)⟩
theorem lw_p34 : lw_okq (⟨"TextMorphModel", "fresh", "()V"⟩, 21) := ⟨⟨by decide +kernel, by decide +kernel⟩, List.mem_of_getElem? (i := 783) (by decide +kernel), List.mem_of_getElem? (i := 789) (by decide +kernel), List.mem_of_getElem? (i := 790) (by decide +kernel)⟩
theorem lw_p35 : lw_okq (⟨"TextMorphModel", "save", "()V"⟩, 21) := ⟨⟨by decide +kernel, by decide +kernel⟩, List.mem_of_getElem? (i := 783) (by decide +kernel), List.mem_of_getElem? (i := 869) (by decide +kernel), List.mem_of_getElem? (i := 870) (by decide +kernel)⟩
theorem lw_p36 : lw_okq (⟨"TextMorphModel", "lettersOf", "(I)I"⟩, 21) := ⟨⟨by decide +kernel, by decide +kernel⟩, List.mem_of_getElem? (i := 783) (by decide +kernel), List.mem_of_getElem? (i := 873) (by decide +kernel), List.mem_of_getElem? (i := 874) (by decide +kernel)⟩
theorem lw_p37 : lw_okq (⟨"TextMorphModel", "replaced", "(II)I"⟩, 21) := ⟨⟨by decide +kernel, by decide +kernel⟩, List.mem_of_getElem? (i := 783) (by decide +kernel), List.mem_of_getElem? (i := 890) (by decide +kernel), List.mem_of_getElem? (i := 891) (by decide +kernel)⟩
theorem lw_p38 : lw_okq (⟨"TextMorphModel", "lay", "()V"⟩, 21) := ⟨⟨by decide +kernel, by decide +kernel⟩, List.mem_of_getElem? (i := 783) (by decide +kernel), List.mem_of_getElem? (i := 911) (by decide +kernel), List.mem_of_getElem? (i := 912) (by decide +kernel)⟩
theorem lw_p39 : lw_okq (⟨"TextMorphModel", "layLetters", "()V"⟩, 21) := ⟨⟨by decide +kernel, by decide +kernel⟩, List.mem_of_getElem? (i := 783) (by decide +kernel), List.mem_of_getElem? (i := 915) (by decide +kernel), List.mem_of_getElem? (i := 916) (by decide +kernel)⟩
theorem lw_p40 : lw_okq (⟨"TextMorphModel", "layCommon", "()V"⟩, 21) := ⟨⟨by decide +kernel, by decide +kernel⟩, List.mem_of_getElem? (i := 783) (by decide +kernel), List.mem_of_getElem? (i := 919) (by decide +kernel), List.mem_of_getElem? (i := 920) (by decide +kernel)⟩
theorem lw_p41 : lw_okq (⟨"TextMorphModel", "areEqual", "(II)Z"⟩, 21) := ⟨⟨by decide +kernel, by decide +kernel⟩, List.mem_of_getElem? (i := 783) (by decide +kernel), List.mem_of_getElem? (i := 923) (by decide +kernel), List.mem_of_getElem? (i := 924) (by decide +kernel)⟩
theorem lw_p42 : lw_okq (⟨"TextMorphModel", "pair", "(III)V"⟩, 21) := ⟨⟨by decide +kernel, by decide +kernel⟩, List.mem_of_getElem? (i := 783) (by decide +kernel), List.mem_of_getElem? (i := 927) (by decide +kernel), List.mem_of_getElem? (i := 928) (by decide +kernel)⟩
theorem lw_p43 : lw_okq (⟨"TextMorphModel", "layNearest", "(I)V"⟩, 21) := ⟨⟨by decide +kernel, by decide +kernel⟩, List.mem_of_getElem? (i := 783) (by decide +kernel), List.mem_of_getElem? (i := 931) (by decide +kernel), List.mem_of_getElem? (i := 932) (by decide +kernel)⟩
theorem lw_p44 : lw_okq (⟨"TextMorphModel", "canPair", "(III)Z"⟩, 21) := ⟨⟨by decide +kernel, by decide +kernel⟩, List.mem_of_getElem? (i := 783) (by decide +kernel), List.mem_of_getElem? (i := 935) (by decide +kernel), List.mem_of_getElem? (i := 936) (by decide +kernel)⟩
theorem lw_p45 : lw_okq (⟨"TextMorphModel", "distance", "(II)I"⟩, 21) := ⟨⟨by decide +kernel, by decide +kernel⟩, List.mem_of_getElem? (i := 783) (by decide +kernel), List.mem_of_getElem? (i := 939) (by decide +kernel), List.mem_of_getElem? (i := 940) (by decide +kernel)⟩
theorem lw_p46 : lw_okq (⟨"TextMorphModel", "of", "(I)I"⟩, 21) := ⟨⟨by decide +kernel, by decide +kernel⟩, List.mem_of_getElem? (i := 783) (by decide +kernel), List.mem_of_getElem? (i := 946) (by decide +kernel), List.mem_of_getElem? (i := 947) (by decide +kernel)⟩
theorem lw_p47 : lw_okq (⟨"TextMorphModel", "layFrames", "()V"⟩, 21) := ⟨⟨by decide +kernel, by decide +kernel⟩, List.mem_of_getElem? (i := 783) (by decide +kernel), List.mem_of_getElem? (i := 950) (by decide +kernel), List.mem_of_getElem? (i := 951) (by decide +kernel)⟩
def lw_privs_3 : List (MethodName × Nat) := [(⟨"TextMorph", "isPiece", "(I)Z"⟩, 8), (⟨"TextMorph", "isFrame", "(I)Z"⟩, 8), (⟨"TextMorphModel", "fresh", "()V"⟩, 21), (⟨"TextMorphModel", "save", "()V"⟩, 21), (⟨"TextMorphModel", "lettersOf", "(I)I"⟩, 21), (⟨"TextMorphModel", "replaced", "(II)I"⟩, 21), (⟨"TextMorphModel", "lay", "()V"⟩, 21), (⟨"TextMorphModel", "layLetters", "()V"⟩, 21), (⟨"TextMorphModel", "layCommon", "()V"⟩, 21), (⟨"TextMorphModel", "areEqual", "(II)Z"⟩, 21), (⟨"TextMorphModel", "pair", "(III)V"⟩, 21), (⟨"TextMorphModel", "layNearest", "(I)V"⟩, 21), (⟨"TextMorphModel", "canPair", "(III)Z"⟩, 21), (⟨"TextMorphModel", "distance", "(II)I"⟩, 21), (⟨"TextMorphModel", "of", "(I)I"⟩, 21), (⟨"TextMorphModel", "layFrames", "()V"⟩, 21)]
theorem lw_r3 : ∀ q ∈ lw_privs_3, lw_okq q := List.forall_mem_cons.mpr ⟨lw_p32, List.forall_mem_cons.mpr ⟨lw_p33, List.forall_mem_cons.mpr ⟨lw_p34, List.forall_mem_cons.mpr ⟨lw_p35, List.forall_mem_cons.mpr ⟨lw_p36, List.forall_mem_cons.mpr ⟨lw_p37, List.forall_mem_cons.mpr ⟨lw_p38, List.forall_mem_cons.mpr ⟨lw_p39, List.forall_mem_cons.mpr ⟨lw_p40, List.forall_mem_cons.mpr ⟨lw_p41, List.forall_mem_cons.mpr ⟨lw_p42, List.forall_mem_cons.mpr ⟨lw_p43, List.forall_mem_cons.mpr ⟨lw_p44, List.forall_mem_cons.mpr ⟨lw_p45, List.forall_mem_cons.mpr ⟨lw_p46, List.forall_mem_cons.mpr ⟨lw_p47, fun _ h => absurd h List.not_mem_nil⟩⟩⟩⟩⟩⟩⟩⟩⟩⟩⟩⟩⟩⟩⟩⟩
theorem lw_p48 : lw_okq (⟨"TextMorphModel", "ofKind", "(II)I"⟩, 21) := ⟨⟨by decide +kernel, by decide +kernel⟩, List.mem_of_getElem? (i := 783) (by decide +kernel), List.mem_of_getElem? (i := 954) (by decide +kernel), List.mem_of_getElem? (i := 955) (by decide +kernel)⟩
theorem lw_p49 : lw_okq (⟨"TextMorphModel", "layFrame", "()V"⟩, 21) := ⟨⟨by decide +kernel, by decide +kernel⟩, List.mem_of_getElem? (i := 783) (by decide +kernel), List.mem_of_getElem? (i := 958) (by decide +kernel), List.mem_of_getElem? (i := 959) (by decide +kernel)⟩
theorem lw_p50 : lw_okq (⟨"TextMorphModel", "isGoing", "(I)Z"⟩, 21) := ⟨⟨by decide +kernel, by decide +kernel⟩, List.mem_of_getElem? (i := 783) (by decide +kernel), List.mem_of_getElem? (i := 962) (by decide +kernel), List.mem_of_getElem? (i := 963) (by decide +kernel)⟩
theorem lw_p51 : lw_okq (⟨"TextMorphModel", "goal", "(I)I"⟩, 21) := ⟨⟨by decide +kernel, by decide +kernel⟩, List.mem_of_getElem? (i := 783) (by decide +kernel), List.mem_of_getElem? (i := 966) (by decide +kernel), List.mem_of_getElem? (i := 967) (by decide +kernel)⟩
theorem lw_p52 : lw_okq (⟨"TextMorphModel", "nextOf", "(I)I"⟩, 21) := ⟨⟨by decide +kernel, by decide +kernel⟩, List.mem_of_getElem? (i := 783) (by decide +kernel), List.mem_of_getElem? (i := 970) (by decide +kernel), List.mem_of_getElem? (i := 971) (by decide +kernel)⟩
theorem lw_p53 : lw_okq (⟨"TextMorphModel", "isTaken", "(II)Z"⟩, 21) := ⟨⟨by decide +kernel, by decide +kernel⟩, List.mem_of_getElem? (i := 783) (by decide +kernel), List.mem_of_getElem? (i := 974) (by decide +kernel), List.mem_of_getElem? (i := 975) (by decide +kernel)⟩
theorem lw_p54 : lw_okq (⟨"TextMorphModel", "firstMoving", "()I"⟩, 21) := ⟨⟨by decide +kernel, by decide +kernel⟩, List.mem_of_getElem? (i := 783) (by decide +kernel), List.mem_of_getElem? (i := 978) (by decide +kernel), List.mem_of_getElem? (i := 979) (by decide +kernel)⟩
theorem lw_p55 : lw_okq (⟨"TextMorphModel", "anyGoes", "()Z"⟩, 21) := ⟨⟨by decide +kernel, by decide +kernel⟩, List.mem_of_getElem? (i := 783) (by decide +kernel), List.mem_of_getElem? (i := 982) (by decide +kernel), List.mem_of_getElem? (i := 983) (by decide +kernel)⟩
theorem lw_p56 : lw_okq (⟨"TextMorphModel", "frames", "()I"⟩, 21) := ⟨⟨by decide +kernel, by decide +kernel⟩, List.mem_of_getElem? (i := 783) (by decide +kernel), List.mem_of_getElem? (i := 986) (by decide +kernel), List.mem_of_getElem? (i := 987) (by decide +kernel)⟩
theorem lw_p57 : lw_okq (⟨"TextMorphModel", "readText", "()I"⟩, 21) := ⟨⟨by decide +kernel, by decide +kernel⟩, List.mem_of_getElem? (i := 783) (by decide +kernel), List.mem_of_getElem? (i := 1002) (by decide +kernel), List.mem_of_getElem? (i := 1003) (by decide +kernel)⟩
theorem lw_p58 : lw_okq (⟨"TextMorphModel", "letterNow", "(III)I"⟩, 21) := ⟨⟨by decide +kernel, by decide +kernel⟩, List.mem_of_getElem? (i := 783) (by decide +kernel), List.mem_of_getElem? (i := 1014) (by decide +kernel), List.mem_of_getElem? (i := 1015) (by decide +kernel)⟩
theorem lw_p59 : lw_okq (⟨"TextMorphModel", "wayNow", "(II)I"⟩, 21) := ⟨⟨by decide +kernel, by decide +kernel⟩, List.mem_of_getElem? (i := 783) (by decide +kernel), List.mem_of_getElem? (i := 1022) (by decide +kernel), List.mem_of_getElem? (i := 1023) (by decide +kernel)⟩
theorem lw_p60 : lw_okq (⟨"TextMorphModel", "steps", "(I)I"⟩, 21) := ⟨⟨by decide +kernel, by decide +kernel⟩, List.mem_of_getElem? (i := 783) (by decide +kernel), List.mem_of_getElem? (i := 1026) (by decide +kernel), List.mem_of_getElem? (i := 1027) (by decide +kernel)⟩
theorem lw_p61 : lw_okq (⟨"TextMorphModel", "goneAt", "(I)I"⟩, 21) := ⟨⟨by decide +kernel, by decide +kernel⟩, List.mem_of_getElem? (i := 783) (by decide +kernel), List.mem_of_getElem? (i := 1030) (by decide +kernel), List.mem_of_getElem? (i := 1031) (by decide +kernel)⟩
theorem lw_p62 : lw_okq (⟨"TextMorphModel", "isFrame", "(I)Z"⟩, 21) := ⟨⟨by decide +kernel, by decide +kernel⟩, List.mem_of_getElem? (i := 783) (by decide +kernel), List.mem_of_getElem? (i := 1038) (by decide +kernel), List.mem_of_getElem? (i := 1039) (by decide +kernel)⟩
theorem lw_p63 : lw_okq (⟨"TextMorphModel", "shown", "(II)I"⟩, 21) := ⟨⟨by decide +kernel, by decide +kernel⟩, List.mem_of_getElem? (i := 783) (by decide +kernel), List.mem_of_getElem? (i := 1042) (by decide +kernel), List.mem_of_getElem? (i := 1043) (by decide +kernel)⟩
def lw_privs_4 : List (MethodName × Nat) := [(⟨"TextMorphModel", "ofKind", "(II)I"⟩, 21), (⟨"TextMorphModel", "layFrame", "()V"⟩, 21), (⟨"TextMorphModel", "isGoing", "(I)Z"⟩, 21), (⟨"TextMorphModel", "goal", "(I)I"⟩, 21), (⟨"TextMorphModel", "nextOf", "(I)I"⟩, 21), (⟨"TextMorphModel", "isTaken", "(II)Z"⟩, 21), (⟨"TextMorphModel", "firstMoving", "()I"⟩, 21), (⟨"TextMorphModel", "anyGoes", "()Z"⟩, 21), (⟨"TextMorphModel", "frames", "()I"⟩, 21), (⟨"TextMorphModel", "readText", "()I"⟩, 21), (⟨"TextMorphModel", "letterNow", "(III)I"⟩, 21), (⟨"TextMorphModel", "wayNow", "(II)I"⟩, 21), (⟨"TextMorphModel", "steps", "(I)I"⟩, 21), (⟨"TextMorphModel", "goneAt", "(I)I"⟩, 21), (⟨"TextMorphModel", "isFrame", "(I)Z"⟩, 21), (⟨"TextMorphModel", "shown", "(II)I"⟩, 21)]
theorem lw_r4 : ∀ q ∈ lw_privs_4, lw_okq q := List.forall_mem_cons.mpr ⟨lw_p48, List.forall_mem_cons.mpr ⟨lw_p49, List.forall_mem_cons.mpr ⟨lw_p50, List.forall_mem_cons.mpr ⟨lw_p51, List.forall_mem_cons.mpr ⟨lw_p52, List.forall_mem_cons.mpr ⟨lw_p53, List.forall_mem_cons.mpr ⟨lw_p54, List.forall_mem_cons.mpr ⟨lw_p55, List.forall_mem_cons.mpr ⟨lw_p56, List.forall_mem_cons.mpr ⟨lw_p57, List.forall_mem_cons.mpr ⟨lw_p58, List.forall_mem_cons.mpr ⟨lw_p59, List.forall_mem_cons.mpr ⟨lw_p60, List.forall_mem_cons.mpr ⟨lw_p61, List.forall_mem_cons.mpr ⟨lw_p62, List.forall_mem_cons.mpr ⟨lw_p63, fun _ h => absurd h List.not_mem_nil⟩⟩⟩⟩⟩⟩⟩⟩⟩⟩⟩⟩⟩⟩⟩⟩
theorem lw_p64 : lw_okq (⟨"TextMorphModel", "placeIn", "(II)I"⟩, 21) := ⟨⟨by decide +kernel, by decide +kernel⟩, List.mem_of_getElem? (i := 783) (by decide +kernel), List.mem_of_getElem? (i := 1046) (by decide +kernel), List.mem_of_getElem? (i := 1047) (by decide +kernel)⟩
theorem lw_p65 : lw_okq (⟨"TextMorphModel", "shownOf", "(II)I"⟩, 21) := ⟨⟨by decide +kernel, by decide +kernel⟩, List.mem_of_getElem? (i := 783) (by decide +kernel), List.mem_of_getElem? (i := 1050) (by decide +kernel), List.mem_of_getElem? (i := 1051) (by decide +kernel)⟩
theorem lw_p66 : lw_okq (⟨"TextMorphModel", "frameNow", "(II)I"⟩, 21) := ⟨⟨by decide +kernel, by decide +kernel⟩, List.mem_of_getElem? (i := 783) (by decide +kernel), List.mem_of_getElem? (i := 1062) (by decide +kernel), List.mem_of_getElem? (i := 1063) (by decide +kernel)⟩
theorem lw_p67 : lw_okq (⟨"TextMorphModel", "piecesIn", "(II)I"⟩, 21) := ⟨⟨by decide +kernel, by decide +kernel⟩, List.mem_of_getElem? (i := 783) (by decide +kernel), List.mem_of_getElem? (i := 1066) (by decide +kernel), List.mem_of_getElem? (i := 1067) (by decide +kernel)⟩
theorem lw_p68 : lw_okq (⟨"TextMorphModel", "counted", "(I)I"⟩, 21) := ⟨⟨by decide +kernel, by decide +kernel⟩, List.mem_of_getElem? (i := 783) (by decide +kernel), List.mem_of_getElem? (i := 1074) (by decide +kernel), List.mem_of_getElem? (i := 1075) (by decide +kernel)⟩
theorem lw_p69 : lw_okq (⟨"TextMorphModel", "sumOf", "(I)I"⟩, 21) := ⟨⟨by decide +kernel, by decide +kernel⟩, List.mem_of_getElem? (i := 783) (by decide +kernel), List.mem_of_getElem? (i := 1078) (by decide +kernel), List.mem_of_getElem? (i := 1079) (by decide +kernel)⟩
theorem lw_p70 : lw_okq (⟨"TextMorphModel", "ifNow", "(III)I"⟩, 21) := ⟨⟨by decide +kernel, by decide +kernel⟩, List.mem_of_getElem? (i := 783) (by decide +kernel), List.mem_of_getElem? (i := 1090) (by decide +kernel), List.mem_of_getElem? (i := 1091) (by decide +kernel)⟩
theorem lw_p71 : lw_okq (⟨"TextMorphModel", "bestNow", "()I"⟩, 21) := ⟨⟨by decide +kernel, by decide +kernel⟩, List.mem_of_getElem? (i := 783) (by decide +kernel), List.mem_of_getElem? (i := 1098) (by decide +kernel), List.mem_of_getElem? (i := 1099) (by decide +kernel)⟩
theorem lw_p72 : lw_okq (⟨"TextMorphModel", "likenessNow", "()D"⟩, 21) := ⟨⟨by decide +kernel, by decide +kernel⟩, List.mem_of_getElem? (i := 783) (by decide +kernel), List.mem_of_getElem? (i := 1106) (by decide +kernel), List.mem_of_getElem? (i := 1107) (by decide +kernel)⟩
theorem lw_p73 : lw_okq (⟨"TextMorphModel", "mix", "(J)V"⟩, 21) := ⟨⟨by decide +kernel, by decide +kernel⟩, List.mem_of_getElem? (i := 783) (by decide +kernel), List.mem_of_getElem? (i := 1116) (by decide +kernel), List.mem_of_getElem? (i := 1117) (by decide +kernel)⟩
theorem lw_p74 : lw_okq (⟨"TextMorphModel", "mixFrames", "()V"⟩, 21) := ⟨⟨by decide +kernel, by decide +kernel⟩, List.mem_of_getElem? (i := 783) (by decide +kernel), List.mem_of_getElem? (i := 1121) (by decide +kernel), List.mem_of_getElem? (i := 1122) (by decide +kernel)⟩
def lw_privs_5 : List (MethodName × Nat) := [(⟨"TextMorphModel", "placeIn", "(II)I"⟩, 21), (⟨"TextMorphModel", "shownOf", "(II)I"⟩, 21), (⟨"TextMorphModel", "frameNow", "(II)I"⟩, 21), (⟨"TextMorphModel", "piecesIn", "(II)I"⟩, 21), (⟨"TextMorphModel", "counted", "(I)I"⟩, 21), (⟨"TextMorphModel", "sumOf", "(I)I"⟩, 21), (⟨"TextMorphModel", "ifNow", "(III)I"⟩, 21), (⟨"TextMorphModel", "bestNow", "()I"⟩, 21), (⟨"TextMorphModel", "likenessNow", "()D"⟩, 21), (⟨"TextMorphModel", "mix", "(J)V"⟩, 21), (⟨"TextMorphModel", "mixFrames", "()V"⟩, 21)]
theorem lw_r5 : ∀ q ∈ lw_privs_5, lw_okq q := List.forall_mem_cons.mpr ⟨lw_p64, List.forall_mem_cons.mpr ⟨lw_p65, List.forall_mem_cons.mpr ⟨lw_p66, List.forall_mem_cons.mpr ⟨lw_p67, List.forall_mem_cons.mpr ⟨lw_p68, List.forall_mem_cons.mpr ⟨lw_p69, List.forall_mem_cons.mpr ⟨lw_p70, List.forall_mem_cons.mpr ⟨lw_p71, List.forall_mem_cons.mpr ⟨lw_p72, List.forall_mem_cons.mpr ⟨lw_p73, List.forall_mem_cons.mpr ⟨lw_p74, fun _ h => absurd h List.not_mem_nil⟩⟩⟩⟩⟩⟩⟩⟩⟩⟩⟩
def lw_privs : List (MethodName × Nat) := lw_privs_1 ++ (lw_privs_2 ++ (lw_privs_3 ++ (lw_privs_4 ++ (lw_privs_5))))
def lw_tbl : List Cond := k2_sels lw_privs ++ tables_1
theorem lw_privs_ok : ∀ q ∈ lw_privs, lw_okq q := by
  show ∀ q ∈ lw_privs_1 ++ (lw_privs_2 ++ (lw_privs_3 ++ (lw_privs_4 ++ (lw_privs_5)))), lw_okq q
  exact List.forall_mem_append.mpr ⟨lw_r1, List.forall_mem_append.mpr ⟨lw_r2, List.forall_mem_append.mpr ⟨lw_r3, List.forall_mem_append.mpr ⟨lw_r4, lw_r5⟩⟩⟩⟩
/-- the streams that the claim lets the run draw from -/
abbrev lw_cs : List Choice := [Jvm.Choice.named "NaN.bits"]
theorem lw_bits : nanBits ∈ lw_cs := by first | decide | exact List.mem_cons_self | simp [lw_cs, nanBits]

def RX0 : String := "TextMorph$Buffer"
def TX0 : u_T := fun k => match k with
  | 0 => ("TextMorph$Buffer", "signs", "[I", true)
  | 1 => ("TextMorph$Buffer", "cells", "[I", true)
  | _ => ("TextMorph$Buffer", "length", "I", false)
def tyX0 : Nat → FieldType := fun k => match k with
  | 0 => .array .int
  | 1 => .array .int
  | _ => .int
abbrev wsX00 : List Cond := u_ws RX0 TX0 3
theorem nmX0 : ∀ a, a < 3 → ∀ b, b < 3 → a ≠ b → (TX0 a).2.1 ≠ (TX0 b).2.1 := by decide +kernel
theorem tyX0_ok : ∀ k, k < 3 → parseFieldDescriptor (TX0 k).2.2.1 = some (tyX0 k) := by decide +kernel
abbrev cX0_init : ByteArray := prog_2_method_1_code
def yX0_init : MethodName := ⟨RX0, "<init>", "()V"⟩
abbrev cX0_read : ByteArray := prog_2_method_2_code
def yX0_read : MethodName := ⟨RX0, "read", "()I"⟩
def RX1 : String := "TextMorph$Morph"
def TX1 : u_T := fun k => match k with
  | 0 => ("TextMorph$Morph", "pairs", "LTextMorph$Pairs;", true)
  | 1 => ("TextMorph$Morph", "motion", "LTextMorph$Motion;", true)
  | 2 => ("TextMorph$Morph", "state", "LTextMorph$State;", true)
  | 3 => ("TextMorph$Morph", "goneFrom", "[I", true)
  | 4 => ("TextMorph$Morph", "thereFrom", "[I", true)
  | 5 => ("TextMorph$Morph", "shown", "[I", true)
  | 6 => ("TextMorph$Morph", "shownBefore", "[I", true)
  | 7 => ("TextMorph$Morph", "piecesIn", "[I", true)
  | _ => ("TextMorph$Morph", "stillFrames", "I", false)
def tyX1 : Nat → FieldType := fun k => match k with
  | 0 => .object "TextMorph$Pairs"
  | 1 => .object "TextMorph$Motion"
  | 2 => .object "TextMorph$State"
  | 3 => .array .int
  | 4 => .array .int
  | 5 => .array .int
  | 6 => .array .int
  | 7 => .array .int
  | _ => .int
abbrev wsX10 : List Cond := u_ws RX1 TX1 9
theorem nmX1 : ∀ a, a < 9 → ∀ b, b < 9 → a ≠ b → (TX1 a).2.1 ≠ (TX1 b).2.1 := by decide +kernel
theorem tyX1_ok : ∀ k, k < 9 → parseFieldDescriptor (TX1 k).2.2.1 = some (tyX1 k) := by decide +kernel
abbrev cX1_init : ByteArray := prog_3_method_1_code
def yX1_init : MethodName := ⟨RX1, "<init>", "(LTextMorph$State;)V"⟩
abbrev cX1_work : ByteArray := prog_3_method_2_code
def yX1_work : MethodName := ⟨RX1, "work", "()V"⟩
abbrev cX1_frames : ByteArray := prog_3_method_3_code
def yX1_frames : MethodName := ⟨RX1, "frames", "()I"⟩
abbrev cX1_number : ByteArray := prog_3_method_4_code
def yX1_number : MethodName := ⟨RX1, "number", "(I)I"⟩
abbrev cX1_letterProperty : ByteArray := prog_3_method_5_code
def yX1_letterProperty : MethodName := ⟨RX1, "letterProperty", "(III)I"⟩
abbrev cX1_wayProperty : ByteArray := prog_3_method_6_code
def yX1_wayProperty : MethodName := ⟨RX1, "wayProperty", "(II)I"⟩
abbrev cX1_cellOf : ByteArray := prog_3_method_7_code
def yX1_cellOf : MethodName := ⟨RX1, "cellOf", "(II)I"⟩
abbrev cX1_codeShown : ByteArray := prog_3_method_8_code
def yX1_codeShown : MethodName := ⟨RX1, "codeShown", "(II)I"⟩
abbrev cX1_frameProperty : ByteArray := prog_3_method_9_code
def yX1_frameProperty : MethodName := ⟨RX1, "frameProperty", "(II)I"⟩
abbrev cX1_distancesOfAll : ByteArray := prog_3_method_10_code
def yX1_distancesOfAll : MethodName := ⟨RX1, "distancesOfAll", "()I"⟩
abbrev cX1_stepsOfAll : ByteArray := prog_3_method_11_code
def yX1_stepsOfAll : MethodName := ⟨RX1, "stepsOfAll", "()I"⟩
abbrev cX1_steps : ByteArray := prog_3_method_12_code
def yX1_steps : MethodName := ⟨RX1, "steps", "(I)I"⟩
abbrev cX1_vanishes : ByteArray := prog_3_method_13_code
def yX1_vanishes : MethodName := ⟨RX1, "vanishes", "(I)Z"⟩
abbrev cX1_isGone : ByteArray := prog_3_method_14_code
def yX1_isGone : MethodName := ⟨RX1, "isGone", "(II)Z"⟩
abbrev cX1_movedBy : ByteArray := prog_3_method_15_code
def yX1_movedBy : MethodName := ⟨RX1, "movedBy", "(I)I"⟩
abbrev cX1_pieceCode : ByteArray := prog_3_method_16_code
def yX1_pieceCode : MethodName := ⟨RX1, "pieceCode", "(II)I"⟩
abbrev cX1_show : ByteArray := prog_3_method_17_code
def yX1_show : MethodName := ⟨RX1, "show", "(I[I)V"⟩
abbrev cX1_cellsWithLetters : ByteArray := prog_3_method_18_code
def yX1_cellsWithLetters : MethodName := ⟨RX1, "cellsWithLetters", "(I)I"⟩
abbrev cX1_cellsThatDiffer : ByteArray := prog_3_method_19_code
def yX1_cellsThatDiffer : MethodName := ⟨RX1, "cellsThatDiffer", "(I)I"⟩
abbrev cX1_sharedCells : ByteArray := prog_3_method_20_code
def yX1_sharedCells : MethodName := ⟨RX1, "sharedCells", "(I)I"⟩
abbrev cX1_piecesLeft : ByteArray := prog_3_method_21_code
def yX1_piecesLeft : MethodName := ⟨RX1, "piecesLeft", "(I)I"⟩
def RX2 : String := "TextMorph$Motion"
def TX2 : u_T := fun k => match k with
  | 0 => ("TextMorph$Motion", "goals", "[I", true)
  | 1 => ("TextMorph$Motion", "heldFrames", "[I", true)
  | 2 => ("TextMorph$Motion", "arrivals", "[I", true)
  | 3 => ("TextMorph$Motion", "frames", "I", false)
  | 4 => ("TextMorph$Motion", "heldInAll", "I", false)
  | 5 => ("TextMorph$Motion", "state", "LTextMorph$State;", true)
  | 6 => ("TextMorph$Motion", "pairs", "LTextMorph$Pairs;", true)
  | 7 => ("TextMorph$Motion", "cells", "[I", true)
  | 8 => ("TextMorph$Motion", "heldLately", "[I", true)
  | 9 => ("TextMorph$Motion", "piecesIn", "[I", true)
  | 10 => ("TextMorph$Motion", "heldPieces", "[I", true)
  | 11 => ("TextMorph$Motion", "track", "[I", true)
  | _ => ("TextMorph$Motion", "away", "I", false)
def tyX2 : Nat → FieldType := fun k => match k with
  | 0 => .array .int
  | 1 => .array .int
  | 2 => .array .int
  | 3 => .int
  | 4 => .int
  | 5 => .object "TextMorph$State"
  | 6 => .object "TextMorph$Pairs"
  | 7 => .array .int
  | 8 => .array .int
  | 9 => .array .int
  | 10 => .array .int
  | 11 => .array .int
  | _ => .int
abbrev wsX20 : List Cond := u_ws RX2 TX2 13
theorem nmX2 : ∀ a, a < 13 → ∀ b, b < 13 → a ≠ b → (TX2 a).2.1 ≠ (TX2 b).2.1 := by decide +kernel
theorem tyX2_ok : ∀ k, k < 13 → parseFieldDescriptor (TX2 k).2.2.1 = some (tyX2 k) := by decide +kernel
abbrev cX2_init : ByteArray := prog_4_method_1_code
def yX2_init : MethodName := ⟨RX2, "<init>", "(LTextMorph$State;LTextMorph$Pairs;)V"⟩
abbrev cX2_work : ByteArray := prog_4_method_2_code
def yX2_work : MethodName := ⟨RX2, "work", "()V"⟩
abbrev cX2_cellAfter : ByteArray := prog_4_method_3_code
def yX2_cellAfter : MethodName := ⟨RX2, "cellAfter", "(II)I"⟩
abbrev cX2_isAtGoalAfter : ByteArray := prog_4_method_4_code
def yX2_isAtGoalAfter : MethodName := ⟨RX2, "isAtGoalAfter", "(II)Z"⟩
abbrev cX2_heldIn : ByteArray := prog_4_method_5_code
def yX2_heldIn : MethodName := ⟨RX2, "heldIn", "(I)I"⟩
abbrev cX2_start : ByteArray := prog_4_method_6_code
def yX2_start : MethodName := ⟨RX2, "start", "()V"⟩
abbrev cX2_record : ByteArray := prog_4_method_7_code
def yX2_record : MethodName := ⟨RX2, "record", "(I)V"⟩
abbrev cX2_isAway : ByteArray := prog_4_method_8_code
def yX2_isAway : MethodName := ⟨RX2, "isAway", "(I)Z"⟩
abbrev cX2_moveOrHold : ByteArray := prog_4_method_9_code
def yX2_moveOrHold : MethodName := ⟨RX2, "moveOrHold", "(II)V"⟩
abbrev cX2_nextCell : ByteArray := prog_4_method_10_code
def yX2_nextCell : MethodName := ⟨RX2, "nextCell", "(II)I"⟩
abbrev cX2_goesAlongRow : ByteArray := prog_4_method_11_code
def yX2_goesAlongRow : MethodName := ⟨RX2, "goesAlongRow", "(II)Z"⟩
def RX3 : String := "TextMorph$Pairs"
def TX3 : u_T := fun k => match k with
  | 0 => ("TextMorph$Pairs", "partnerOfFirst", "[I", true)
  | 1 => ("TextMorph$Pairs", "partnerOfSecond", "[I", true)
  | 2 => ("TextMorph$Pairs", "kindOfFirst", "[I", true)
  | 3 => ("TextMorph$Pairs", "kindOfSecond", "[I", true)
  | 4 => ("TextMorph$Pairs", "ofKind", "[I", true)
  | 5 => ("TextMorph$Pairs", "state", "LTextMorph$State;", true)
  | _ => ("TextMorph$Pairs", "longest", "[I", true)
def tyX3 : Nat → FieldType := fun k => match k with
  | 0 => .array .int
  | 1 => .array .int
  | 2 => .array .int
  | 3 => .array .int
  | 4 => .array .int
  | 5 => .object "TextMorph$State"
  | _ => .array .int
abbrev wsX30 : List Cond := u_ws RX3 TX3 7
theorem nmX3 : ∀ a, a < 7 → ∀ b, b < 7 → a ≠ b → (TX3 a).2.1 ≠ (TX3 b).2.1 := by decide +kernel
theorem tyX3_ok : ∀ k, k < 7 → parseFieldDescriptor (TX3 k).2.2.1 = some (tyX3 k) := by decide +kernel
abbrev cX3_init : ByteArray := prog_5_method_1_code
def yX3_init : MethodName := ⟨RX3, "<init>", "(LTextMorph$State;)V"⟩
abbrev cX3_work : ByteArray := prog_5_method_2_code
def yX3_work : MethodName := ⟨RX3, "work", "()V"⟩
abbrev cX3_distance : ByteArray := prog_5_method_3_code
def yX3_distance : MethodName := ⟨RX3, "distance", "(II)I"⟩
abbrev cX3_unpairAll : ByteArray := prog_5_method_4_code
def yX3_unpairAll : MethodName := ⟨RX3, "unpairAll", "()V"⟩
abbrev cX3_pair : ByteArray := prog_5_method_5_code
def yX3_pair : MethodName := ⟨RX3, "pair", "(III)V"⟩
abbrev cX3_pairCommon : ByteArray := prog_5_method_6_code
def yX3_pairCommon : MethodName := ⟨RX3, "pairCommon", "()V"⟩
abbrev cX3_measureLongest : ByteArray := prog_5_method_7_code
def yX3_measureLongest : MethodName := ⟨RX3, "measureLongest", "()V"⟩
abbrev cX3_partnerThatLeaves : ByteArray := prog_5_method_8_code
def yX3_partnerThatLeaves : MethodName := ⟨RX3, "partnerThatLeaves", "(III)I"⟩
abbrev cX3_pairNearest : ByteArray := prog_5_method_9_code
def yX3_pairNearest : MethodName := ⟨RX3, "pairNearest", "(II)Z"⟩
abbrev cX3_mayBePaired : ByteArray := prog_5_method_10_code
def yX3_mayBePaired : MethodName := ⟨RX3, "mayBePaired", "(III)Z"⟩
def RX4 : String := "TextMorph$State"
def TX4 : u_T := fun k => match k with
  | 0 => ("TextMorph$State", "settings", "[I", true)
  | 1 => ("TextMorph$State", "first", "LTextMorph$Text;", false)
  | _ => ("TextMorph$State", "second", "LTextMorph$Text;", false)
def tyX4 : Nat → FieldType := fun k => match k with
  | 0 => .array .int
  | 1 => .object "TextMorph$Text"
  | _ => .object "TextMorph$Text"
abbrev wsX40 : List Cond := u_ws RX4 TX4 3
theorem nmX4 : ∀ a, a < 3 → ∀ b, b < 3 → a ≠ b → (TX4 a).2.1 ≠ (TX4 b).2.1 := by decide +kernel
theorem tyX4_ok : ∀ k, k < 3 → parseFieldDescriptor (TX4 k).2.2.1 = some (tyX4 k) := by decide +kernel
abbrev cX4_init : ByteArray := prog_6_method_1_code
def yX4_init : MethodName := ⟨RX4, "<init>", "()V"⟩
abbrev cX4_text : ByteArray := prog_6_method_2_code
def yX4_text : MethodName := ⟨RX4, "text", "(I)LTextMorph$Text;"⟩
abbrev cX4_clear : ByteArray := prog_6_method_3_code
def yX4_clear : MethodName := ⟨RX4, "clear", "()V"⟩
abbrev cX4_copyFrom : ByteArray := prog_6_method_4_code
def yX4_copyFrom : MethodName := ⟨RX4, "copyFrom", "(LTextMorph$State;)V"⟩
abbrev cX4_exchangeTexts : ByteArray := prog_6_method_5_code
def yX4_exchangeTexts : MethodName := ⟨RX4, "exchangeTexts", "()V"⟩
def RX5 : String := "TextMorph$Text"
def TX5 : u_T := fun k => match k with
  | 0 => ("TextMorph$Text", "codes", "[I", true)
  | 1 => ("TextMorph$Text", "cells", "[I", true)
  | _ => ("TextMorph$Text", "letters", "I", false)
def tyX5 : Nat → FieldType := fun k => match k with
  | 0 => .array .int
  | 1 => .array .int
  | _ => .int
abbrev wsX50 : List Cond := u_ws RX5 TX5 3
theorem nmX5 : ∀ a, a < 3 → ∀ b, b < 3 → a ≠ b → (TX5 a).2.1 ≠ (TX5 b).2.1 := by decide +kernel
theorem tyX5_ok : ∀ k, k < 3 → parseFieldDescriptor (TX5 k).2.2.1 = some (tyX5 k) := by decide +kernel
abbrev cX5_init : ByteArray := prog_7_method_1_code
def yX5_init : MethodName := ⟨RX5, "<init>", "()V"⟩
abbrev cX5_clear : ByteArray := prog_7_method_2_code
def yX5_clear : MethodName := ⟨RX5, "clear", "()V"⟩
abbrev cX5_takeCodes : ByteArray := prog_7_method_3_code
def yX5_takeCodes : MethodName := ⟨RX5, "takeCodes", "([I)V"⟩
abbrev cX5_copyFrom : ByteArray := prog_7_method_4_code
def yX5_copyFrom : MethodName := ⟨RX5, "copyFrom", "(LTextMorph$Text;)V"⟩
abbrev cX5_write : ByteArray := prog_7_method_5_code
def yX5_write : MethodName := ⟨RX5, "write", "(II)V"⟩
abbrev cX5_rowOf : ByteArray := prog_7_method_6_code
def yX5_rowOf : MethodName := ⟨RX5, "rowOf", "(I)I"⟩
abbrev cX5_columnOf : ByteArray := prog_7_method_7_code
def yX5_columnOf : MethodName := ⟨RX5, "columnOf", "(I)I"⟩
abbrev cX5_codeOf : ByteArray := prog_7_method_8_code
def yX5_codeOf : MethodName := ⟨RX5, "codeOf", "(I)I"⟩
abbrev cX5_numberLetters : ByteArray := prog_7_method_9_code
def yX5_numberLetters : MethodName := ⟨RX5, "numberLetters", "()V"⟩
def RX6 : String := "TextMorph"
def TX6 : u_T := fun k => match k with
  | 0 => ("TextMorph", "state", "LTextMorph$State;", true)
  | 1 => ("TextMorph", "morph", "LTextMorph$Morph;", true)
  | 2 => ("TextMorph", "tried", "LTextMorph$State;", true)
  | 3 => ("TextMorph", "trial", "LTextMorph$Morph;", true)
  | 4 => ("TextMorph", "saved", "[LTextMorph$State;", true)
  | 5 => ("TextMorph", "buffer", "LTextMorph$Buffer;", true)
  | 6 => ("TextMorph", "savedStates", "I", false)
  | _ => ("TextMorph", "stale", "Z", false)
def tyX6 : Nat → FieldType := fun k => match k with
  | 0 => .object "TextMorph$State"
  | 1 => .object "TextMorph$Morph"
  | 2 => .object "TextMorph$State"
  | 3 => .object "TextMorph$Morph"
  | 4 => .array (.object "TextMorph$State")
  | 5 => .object "TextMorph$Buffer"
  | 6 => .int
  | _ => .boolean
abbrev wsX60 : List Cond := u_ws RX6 TX6 8
theorem nmX6 : ∀ a, a < 8 → ∀ b, b < 8 → a ≠ b → (TX6 a).2.1 ≠ (TX6 b).2.1 := by decide +kernel
theorem tyX6_ok : ∀ k, k < 8 → parseFieldDescriptor (TX6 k).2.2.1 = some (tyX6 k) := by decide +kernel
abbrev cX6_init : ByteArray := prog_1_method_1_code
def yX6_init : MethodName := ⟨RX6, "<init>", "()V"⟩
abbrev cX6_begin : ByteArray := prog_1_method_2_code
def yX6_begin : MethodName := ⟨RX6, "begin", "()I"⟩
abbrev cX6_set : ByteArray := prog_1_method_3_code
def yX6_set : MethodName := ⟨RX6, "set", "(II)I"⟩
abbrev cX6_load : ByteArray := prog_1_method_4_code
def yX6_load : MethodName := ⟨RX6, "load", "(I)I"⟩
abbrev cX6_put : ByteArray := prog_1_method_5_code
def yX6_put : MethodName := ⟨RX6, "put", "(IIII)I"⟩
abbrev cX6_swap : ByteArray := prog_1_method_6_code
def yX6_swap : MethodName := ⟨RX6, "swap", "()I"⟩
abbrev cX6_undo : ByteArray := prog_1_method_7_code
def yX6_undo : MethodName := ⟨RX6, "undo", "()I"⟩
abbrev cX6_append : ByteArray := prog_1_method_8_code
def yX6_append : MethodName := ⟨RX6, "append", "(I)I"⟩
abbrev cX6_clearBuffer : ByteArray := prog_1_method_9_code
def yX6_clearBuffer : MethodName := ⟨RX6, "clearBuffer", "()I"⟩
abbrev cX6_firstError : ByteArray := prog_1_method_10_code
def yX6_firstError : MethodName := ⟨RX6, "firstError", "()I"⟩
abbrev cX6_letter : ByteArray := prog_1_method_11_code
def yX6_letter : MethodName := ⟨RX6, "letter", "(III)I"⟩
abbrev cX6_way : ByteArray := prog_1_method_12_code
def yX6_way : MethodName := ⟨RX6, "way", "(II)I"⟩
abbrev cX6_at : ByteArray := prog_1_method_13_code
def yX6_at : MethodName := ⟨RX6, "at", "(III)I"⟩
abbrev cX6_place : ByteArray := prog_1_method_14_code
def yX6_place : MethodName := ⟨RX6, "place", "(II)I"⟩
abbrev cX6_frame : ByteArray := prog_1_method_15_code
def yX6_frame : MethodName := ⟨RX6, "frame", "(II)I"⟩
abbrev cX6_count : ByteArray := prog_1_method_16_code
def yX6_count : MethodName := ⟨RX6, "count", "(I)I"⟩
abbrev cX6_setting : ByteArray := prog_1_method_17_code
def yX6_setting : MethodName := ⟨RX6, "setting", "(I)I"⟩
abbrev cX6_ifSet : ByteArray := prog_1_method_18_code
def yX6_ifSet : MethodName := ⟨RX6, "ifSet", "(III)I"⟩
abbrev cX6_best : ByteArray := prog_1_method_19_code
def yX6_best : MethodName := ⟨RX6, "best", "()I"⟩
abbrev cX6_likeness : ByteArray := prog_1_method_20_code
def yX6_likeness : MethodName := ⟨RX6, "likeness", "()D"⟩
abbrev cX6_digest : ByteArray := prog_1_method_21_code
def yX6_digest : MethodName := ⟨RX6, "digest", "()J"⟩
abbrev cX6_mixNumbers : ByteArray := prog_1_method_22_code
def yX6_mixNumbers : MethodName := ⟨RX6, "mixNumbers", "(J)J"⟩
abbrev cX6_mixLetters : ByteArray := prog_1_method_23_code
def yX6_mixLetters : MethodName := ⟨RX6, "mixLetters", "(J)J"⟩
abbrev cX6_mixFrames : ByteArray := prog_1_method_24_code
def yX6_mixFrames : MethodName := ⟨RX6, "mixFrames", "(J)J"⟩
abbrev cX6_mix : ByteArray := prog_1_method_25_code
def yX6_mix : MethodName := ⟨RX6, "mix", "(JJ)J"⟩
abbrev cX6_bits : ByteArray := prog_1_method_26_code
def yX6_bits : MethodName := ⟨RX6, "bits", "(D)J"⟩
abbrev cX6_save : ByteArray := prog_1_method_27_code
def yX6_save : MethodName := ⟨RX6, "save", "()V"⟩
abbrev cX6_refresh : ByteArray := prog_1_method_28_code
def yX6_refresh : MethodName := ⟨RX6, "refresh", "()V"⟩
abbrev cX6_isFrame : ByteArray := prog_1_method_29_code
def yX6_isFrame : MethodName := ⟨RX6, "isFrame", "(I)Z"⟩
abbrev cX6_isPiece : ByteArray := prog_1_method_30_code
def yX6_isPiece : MethodName := ⟨RX6, "isPiece", "(I)Z"⟩
abbrev cX6_isText : ByteArray := prog_1_method_31_code
def yX6_isText : MethodName := ⟨RX6, "isText", "(I)Z"⟩
abbrev cX6_isCell : ByteArray := prog_1_method_32_code
def yX6_isCell : MethodName := ⟨RX6, "isCell", "(II)Z"⟩
abbrev cX6_isLetter : ByteArray := prog_1_method_33_code
def yX6_isLetter : MethodName := ⟨RX6, "isLetter", "(I)Z"⟩
abbrev cX6_isSetting : ByteArray := prog_1_method_34_code
def yX6_isSetting : MethodName := ⟨RX6, "isSetting", "(I)Z"⟩
abbrev cX6_isValue : ByteArray := prog_1_method_35_code
def yX6_isValue : MethodName := ⟨RX6, "isValue", "(II)Z"⟩
def RX7 : String := "TextMorphModel"
def TX7 : u_T := fun k => match k with
  | 0 => ("TextMorphModel", "thrown", "I", false)
  | 1 => ("TextMorphModel", "z", "[I", true)
  | 2 => ("TextMorphModel", "saves", "I", false)
  | 3 => ("TextMorphModel", "saved", "[I", true)
  | 4 => ("TextMorphModel", "length", "I", false)
  | 5 => ("TextMorphModel", "text", "[I", true)
  | 6 => ("TextMorphModel", "many", "[I", true)
  | 7 => ("TextMorphModel", "cellOf", "[I", true)
  | 8 => ("TextMorphModel", "codeOf", "[I", true)
  | 9 => ("TextMorphModel", "partner", "[I", true)
  | 10 => ("TextMorphModel", "kindOf", "[I", true)
  | 11 => ("TextMorphModel", "longest", "[I", true)
  | 12 => ("TextMorphModel", "moving", "I", false)
  | 13 => ("TextMorphModel", "spot", "[I", true)
  | 14 => ("TextMorphModel", "heldIn", "[I", true)
  | 15 => ("TextMorphModel", "heldSum", "[I", true)
  | 16 => ("TextMorphModel", "heldNow", "[I", true)
  | 17 => ("TextMorphModel", "cell", "[I", true)
  | 18 => ("TextMorphModel", "arrives", "[I", true)
  | 19 => ("TextMorphModel", "read", "[I", true)
  | _ => ("TextMorphModel", "h", "J", false)
def tyX7 : Nat → FieldType := fun k => match k with
  | 0 => .int
  | 1 => .array .int
  | 2 => .int
  | 3 => .array .int
  | 4 => .int
  | 5 => .array .int
  | 6 => .array .int
  | 7 => .array .int
  | 8 => .array .int
  | 9 => .array .int
  | 10 => .array .int
  | 11 => .array .int
  | 12 => .int
  | 13 => .array .int
  | 14 => .array .int
  | 15 => .array .int
  | 16 => .array .int
  | 17 => .array .int
  | 18 => .array .int
  | 19 => .array .int
  | _ => .long
abbrev wsX70 : List Cond := u_ws RX7 TX7 21
theorem nmX7 : ∀ a, a < 21 → ∀ b, b < 21 → a ≠ b → (TX7 a).2.1 ≠ (TX7 b).2.1 := by decide +kernel
theorem tyX7_ok : ∀ k, k < 21 → parseFieldDescriptor (TX7 k).2.2.1 = some (tyX7 k) := by decide +kernel
abbrev cX7_init : ByteArray := prog_9_method_1_code
def yX7_init : MethodName := ⟨RX7, "<init>", "()V"⟩
abbrev cX7_thrown : ByteArray := prog_9_method_2_code
def yX7_thrown : MethodName := ⟨RX7, "thrown", "()I"⟩
abbrev cX7_within : ByteArray := prog_9_method_3_code
def yX7_within : MethodName := ⟨RX7, "within", "(III)Z"⟩
abbrev cX7_fresh : ByteArray := prog_9_method_4_code
def yX7_fresh : MethodName := ⟨RX7, "fresh", "()V"⟩
abbrev cX7_of : ByteArray := prog_9_method_5_code
def yX7_of : MethodName := ⟨RX7, "of", "(I)I"⟩
abbrev cX7_isLetter : ByteArray := prog_9_method_6_code
def yX7_isLetter : MethodName := ⟨RX7, "isLetter", "(I)Z"⟩
abbrev cX7_lettersOf : ByteArray := prog_9_method_7_code
def yX7_lettersOf : MethodName := ⟨RX7, "lettersOf", "(I)I"⟩
abbrev cX7_layLetters : ByteArray := prog_9_method_8_code
def yX7_layLetters : MethodName := ⟨RX7, "layLetters", "()V"⟩
abbrev cX7_pair : ByteArray := prog_9_method_9_code
def yX7_pair : MethodName := ⟨RX7, "pair", "(III)V"⟩
abbrev cX7_size : ByteArray := prog_9_method_10_code
def yX7_size : MethodName := ⟨RX7, "size", "(I)I"⟩
abbrev cX7_distance : ByteArray := prog_9_method_11_code
def yX7_distance : MethodName := ⟨RX7, "distance", "(II)I"⟩
abbrev cX7_areEqual : ByteArray := prog_9_method_12_code
def yX7_areEqual : MethodName := ⟨RX7, "areEqual", "(II)Z"⟩
abbrev cX7_layCommon : ByteArray := prog_9_method_13_code
def yX7_layCommon : MethodName := ⟨RX7, "layCommon", "()V"⟩
abbrev cX7_canPair : ByteArray := prog_9_method_14_code
def yX7_canPair : MethodName := ⟨RX7, "canPair", "(III)Z"⟩
abbrev cX7_layNearest : ByteArray := prog_9_method_15_code
def yX7_layNearest : MethodName := ⟨RX7, "layNearest", "(I)V"⟩
abbrev cX7_ofKind : ByteArray := prog_9_method_16_code
def yX7_ofKind : MethodName := ⟨RX7, "ofKind", "(II)I"⟩
abbrev cX7_isGoing : ByteArray := prog_9_method_17_code
def yX7_isGoing : MethodName := ⟨RX7, "isGoing", "(I)Z"⟩
abbrev cX7_goal : ByteArray := prog_9_method_18_code
def yX7_goal : MethodName := ⟨RX7, "goal", "(I)I"⟩
abbrev cX7_anyGoes : ByteArray := prog_9_method_19_code
def yX7_anyGoes : MethodName := ⟨RX7, "anyGoes", "()Z"⟩
abbrev cX7_nextOf : ByteArray := prog_9_method_20_code
def yX7_nextOf : MethodName := ⟨RX7, "nextOf", "(I)I"⟩
abbrev cX7_isTaken : ByteArray := prog_9_method_21_code
def yX7_isTaken : MethodName := ⟨RX7, "isTaken", "(II)Z"⟩
abbrev cX7_firstMoving : ByteArray := prog_9_method_22_code
def yX7_firstMoving : MethodName := ⟨RX7, "firstMoving", "()I"⟩
abbrev cX7_layFrame : ByteArray := prog_9_method_23_code
def yX7_layFrame : MethodName := ⟨RX7, "layFrame", "()V"⟩
abbrev cX7_layFrames : ByteArray := prog_9_method_24_code
def yX7_layFrames : MethodName := ⟨RX7, "layFrames", "()V"⟩
abbrev cX7_lay : ByteArray := prog_9_method_25_code
def yX7_lay : MethodName := ⟨RX7, "lay", "()V"⟩
abbrev cX7_frames : ByteArray := prog_9_method_26_code
def yX7_frames : MethodName := ⟨RX7, "frames", "()I"⟩
abbrev cX7_goneAt : ByteArray := prog_9_method_27_code
def yX7_goneAt : MethodName := ⟨RX7, "goneAt", "(I)I"⟩
abbrev cX7_placeIn : ByteArray := prog_9_method_28_code
def yX7_placeIn : MethodName := ⟨RX7, "placeIn", "(II)I"⟩
abbrev cX7_shownOf : ByteArray := prog_9_method_29_code
def yX7_shownOf : MethodName := ⟨RX7, "shownOf", "(II)I"⟩
abbrev cX7_shown : ByteArray := prog_9_method_30_code
def yX7_shown : MethodName := ⟨RX7, "shown", "(II)I"⟩
abbrev cX7_save : ByteArray := prog_9_method_31_code
def yX7_save : MethodName := ⟨RX7, "save", "()V"⟩
abbrev cX7_undo : ByteArray := prog_9_method_32_code
def yX7_undo : MethodName := ⟨RX7, "undo", "()I"⟩
abbrev cX7_begin : ByteArray := prog_9_method_33_code
def yX7_begin : MethodName := ⟨RX7, "begin", "()I"⟩
abbrev cX7_isValue : ByteArray := prog_9_method_34_code
def yX7_isValue : MethodName := ⟨RX7, "isValue", "(II)Z"⟩
abbrev cX7_isSetting : ByteArray := prog_9_method_35_code
def yX7_isSetting : MethodName := ⟨RX7, "isSetting", "(I)Z"⟩
abbrev cX7_replaced : ByteArray := prog_9_method_36_code
def yX7_replaced : MethodName := ⟨RX7, "replaced", "(II)I"⟩
abbrev cX7_set : ByteArray := prog_9_method_37_code
def yX7_set : MethodName := ⟨RX7, "set", "(II)I"⟩
abbrev cX7_isText : ByteArray := prog_9_method_38_code
def yX7_isText : MethodName := ⟨RX7, "isText", "(I)Z"⟩
abbrev cX7_isCell : ByteArray := prog_9_method_39_code
def yX7_isCell : MethodName := ⟨RX7, "isCell", "(II)Z"⟩
abbrev cX7_put : ByteArray := prog_9_method_40_code
def yX7_put : MethodName := ⟨RX7, "put", "(IIII)I"⟩
abbrev cX7_swap : ByteArray := prog_9_method_41_code
def yX7_swap : MethodName := ⟨RX7, "swap", "()I"⟩
abbrev cX7_append : ByteArray := prog_9_method_42_code
def yX7_append : MethodName := ⟨RX7, "append", "(I)I"⟩
abbrev cX7_clearBuffer : ByteArray := prog_9_method_43_code
def yX7_clearBuffer : MethodName := ⟨RX7, "clearBuffer", "()I"⟩
abbrev cX7_readText : ByteArray := prog_9_method_44_code
def yX7_readText : MethodName := ⟨RX7, "readText", "()I"⟩
abbrev cX7_firstError : ByteArray := prog_9_method_45_code
def yX7_firstError : MethodName := ⟨RX7, "firstError", "()I"⟩
abbrev cX7_load : ByteArray := prog_9_method_46_code
def yX7_load : MethodName := ⟨RX7, "load", "(I)I"⟩
abbrev cX7_letterNow : ByteArray := prog_9_method_47_code
def yX7_letterNow : MethodName := ⟨RX7, "letterNow", "(III)I"⟩
abbrev cX7_letter : ByteArray := prog_9_method_48_code
def yX7_letter : MethodName := ⟨RX7, "letter", "(III)I"⟩
abbrev cX7_steps : ByteArray := prog_9_method_49_code
def yX7_steps : MethodName := ⟨RX7, "steps", "(I)I"⟩
abbrev cX7_wayNow : ByteArray := prog_9_method_50_code
def yX7_wayNow : MethodName := ⟨RX7, "wayNow", "(II)I"⟩
abbrev cX7_way : ByteArray := prog_9_method_51_code
def yX7_way : MethodName := ⟨RX7, "way", "(II)I"⟩
abbrev cX7_isFrame : ByteArray := prog_9_method_52_code
def yX7_isFrame : MethodName := ⟨RX7, "isFrame", "(I)Z"⟩
abbrev cX7_at : ByteArray := prog_9_method_53_code
def yX7_at : MethodName := ⟨RX7, "at", "(III)I"⟩
abbrev cX7_place : ByteArray := prog_9_method_54_code
def yX7_place : MethodName := ⟨RX7, "place", "(II)I"⟩
abbrev cX7_piecesIn : ByteArray := prog_9_method_55_code
def yX7_piecesIn : MethodName := ⟨RX7, "piecesIn", "(II)I"⟩
abbrev cX7_frameNow : ByteArray := prog_9_method_56_code
def yX7_frameNow : MethodName := ⟨RX7, "frameNow", "(II)I"⟩
abbrev cX7_frame : ByteArray := prog_9_method_57_code
def yX7_frame : MethodName := ⟨RX7, "frame", "(II)I"⟩
abbrev cX7_sumOf : ByteArray := prog_9_method_58_code
def yX7_sumOf : MethodName := ⟨RX7, "sumOf", "(I)I"⟩
abbrev cX7_counted : ByteArray := prog_9_method_59_code
def yX7_counted : MethodName := ⟨RX7, "counted", "(I)I"⟩
abbrev cX7_count : ByteArray := prog_9_method_60_code
def yX7_count : MethodName := ⟨RX7, "count", "(I)I"⟩
abbrev cX7_setting : ByteArray := prog_9_method_61_code
def yX7_setting : MethodName := ⟨RX7, "setting", "(I)I"⟩
abbrev cX7_ifNow : ByteArray := prog_9_method_62_code
def yX7_ifNow : MethodName := ⟨RX7, "ifNow", "(III)I"⟩
abbrev cX7_ifSet : ByteArray := prog_9_method_63_code
def yX7_ifSet : MethodName := ⟨RX7, "ifSet", "(III)I"⟩
abbrev cX7_bestNow : ByteArray := prog_9_method_64_code
def yX7_bestNow : MethodName := ⟨RX7, "bestNow", "()I"⟩
abbrev cX7_best : ByteArray := prog_9_method_65_code
def yX7_best : MethodName := ⟨RX7, "best", "()I"⟩
abbrev cX7_likenessNow : ByteArray := prog_9_method_66_code
def yX7_likenessNow : MethodName := ⟨RX7, "likenessNow", "()D"⟩
abbrev cX7_likeness : ByteArray := prog_9_method_67_code
def yX7_likeness : MethodName := ⟨RX7, "likeness", "()D"⟩
abbrev cX7_mix : ByteArray := prog_9_method_68_code
def yX7_mix : MethodName := ⟨RX7, "mix", "(J)V"⟩
abbrev cX7_mixFrames : ByteArray := prog_9_method_69_code
def yX7_mixFrames : MethodName := ⟨RX7, "mixFrames", "()V"⟩
abbrev cX7_digest : ByteArray := prog_9_method_70_code
def yX7_digest : MethodName := ⟨RX7, "digest", "()J"⟩
def RJx145de : String := "java/io/Serializable"
def TJx145de : u_T := fun k => match k with
  | _ => ("", "", "", false)
def tyJx145de : Nat → FieldType := fun k => match k with
  | _ => .int
abbrev wsJx145de0 : List Cond := u_ws RJx145de TJx145de 0
theorem nmJx145de : ∀ a, a < 0 → ∀ b, b < 0 → a ≠ b → (TJx145de a).2.1 ≠ (TJx145de b).2.1 := by decide +kernel
theorem tyJx145de_ok : ∀ k, k < 0 → parseFieldDescriptor (TJx145de k).2.2.1 = some (tyJx145de k) := by decide +kernel
def RJxb160c : String := "java/lang/Comparable"
def TJxb160c : u_T := fun k => match k with
  | _ => ("", "", "", false)
def tyJxb160c : Nat → FieldType := fun k => match k with
  | _ => .int
abbrev wsJxb160c0 : List Cond := u_ws RJxb160c TJxb160c 0
theorem nmJxb160c : ∀ a, a < 0 → ∀ b, b < 0 → a ≠ b → (TJxb160c a).2.1 ≠ (TJxb160c b).2.1 := by decide +kernel
theorem tyJxb160c_ok : ∀ k, k < 0 → parseFieldDescriptor (TJxb160c k).2.2.1 = some (tyJxb160c k) := by decide +kernel
def RJxe99ae : String := "java/lang/Double"
def TJxe99ae : u_T := fun k => match k with
  | _ => ("", "", "", false)
def tyJxe99ae : Nat → FieldType := fun k => match k with
  | _ => .int
abbrev wsJxe99ae0 : List Cond := u_ws RJxe99ae TJxe99ae 0
theorem nmJxe99ae : ∀ a, a < 0 → ∀ b, b < 0 → a ≠ b → (TJxe99ae a).2.1 ≠ (TJxe99ae b).2.1 := by decide +kernel
theorem tyJxe99ae_ok : ∀ k, k < 0 → parseFieldDescriptor (TJxe99ae k).2.2.1 = some (tyJxe99ae k) := by decide +kernel
abbrev cJxe99ae_isNaN_b9ae7 : ByteArray := prog_10_method_6_code
def yJxe99ae_isNaN_b9ae7 : MethodName := ⟨RJxe99ae, "isNaN", "(D)Z"⟩
abbrev cJxe99ae_doubleToLongBits_ccdee : ByteArray := prog_10_method_23_code
def yJxe99ae_doubleToLongBits_ccdee : MethodName := ⟨RJxe99ae, "doubleToLongBits", "(D)J"⟩
def RJ9 : String := "java/lang/Math"
def TJ9 : u_T := fun k => match k with
  | _ => ("", "", "", false)
def tyJ9 : Nat → FieldType := fun k => match k with
  | _ => .int
abbrev wsJ90 : List Cond := u_ws RJ9 TJ9 0
theorem nmJ9 : ∀ a, a < 0 → ∀ b, b < 0 → a ≠ b → (TJ9 a).2.1 ≠ (TJ9 b).2.1 := by decide +kernel
theorem tyJ9_ok : ∀ k, k < 0 → parseFieldDescriptor (TJ9 k).2.2.1 = some (tyJ9 k) := by decide +kernel
abbrev cJ9_abs_0f7a4 : ByteArray := prog_15_method_59_code
def yJ9_abs_0f7a4 : MethodName := ⟨RJ9, "abs", "(I)I"⟩
abbrev cJ9_max_7cf53 : ByteArray := prog_15_method_65_code
def yJ9_max_7cf53 : MethodName := ⟨RJ9, "max", "(II)I"⟩
abbrev cJ9_min_7cf53 : ByteArray := prog_15_method_69_code
def yJ9_min_7cf53 : MethodName := ⟨RJ9, "min", "(II)I"⟩
def RJxd2413 : String := "java/lang/Number"
def TJxd2413 : u_T := fun k => match k with
  | _ => ("", "", "", false)
def tyJxd2413 : Nat → FieldType := fun k => match k with
  | _ => .int
abbrev wsJxd24130 : List Cond := u_ws RJxd2413 TJxd2413 0
theorem nmJxd2413 : ∀ a, a < 0 → ∀ b, b < 0 → a ≠ b → (TJxd2413 a).2.1 ≠ (TJxd2413 b).2.1 := by decide +kernel
theorem tyJxd2413_ok : ∀ k, k < 0 → parseFieldDescriptor (TJxd2413 k).2.2.1 = some (tyJxd2413 k) := by decide +kernel
def RJ0 : String := "java/lang/String"
def TJ0 : u_T := fun k => match k with
  | _ => ("", "", "", false)
def tyJ0 : Nat → FieldType := fun k => match k with
  | _ => .int
abbrev wsJ00 : List Cond := u_ws RJ0 TJ0 0
theorem nmJ0 : ∀ a, a < 0 → ∀ b, b < 0 → a ≠ b → (TJ0 a).2.1 ≠ (TJ0 b).2.1 := by decide +kernel
theorem tyJ0_ok : ∀ k, k < 0 → parseFieldDescriptor (TJ0 k).2.2.1 = some (tyJ0 k) := by decide +kernel
def RJ10 : String := "java/lang/System"
def TJ10 : u_T := fun k => match k with
  | _ => ("", "", "", false)
def tyJ10 : Nat → FieldType := fun k => match k with
  | _ => .int
abbrev wsJ100 : List Cond := u_ws RJ10 TJ10 0
theorem nmJ10 : ∀ a, a < 0 → ∀ b, b < 0 → a ≠ b → (TJ10 a).2.1 ≠ (TJ10 b).2.1 := by decide +kernel
theorem tyJ10_ok : ∀ k, k < 0 → parseFieldDescriptor (TJ10 k).2.2.1 = some (tyJ10 k) := by decide +kernel
def RJxfd54e : String := "java/lang/constant/Constable"
def TJxfd54e : u_T := fun k => match k with
  | _ => ("", "", "", false)
def tyJxfd54e : Nat → FieldType := fun k => match k with
  | _ => .int
abbrev wsJxfd54e0 : List Cond := u_ws RJxfd54e TJxfd54e 0
theorem nmJxfd54e : ∀ a, a < 0 → ∀ b, b < 0 → a ≠ b → (TJxfd54e a).2.1 ≠ (TJxfd54e b).2.1 := by decide +kernel
theorem tyJxfd54e_ok : ∀ k, k < 0 → parseFieldDescriptor (TJxfd54e k).2.2.1 = some (tyJxfd54e k) := by decide +kernel
def RJx3cf43 : String := "java/lang/constant/ConstantDesc"
def TJx3cf43 : u_T := fun k => match k with
  | _ => ("", "", "", false)
def tyJx3cf43 : Nat → FieldType := fun k => match k with
  | _ => .int
abbrev wsJx3cf430 : List Cond := u_ws RJx3cf43 TJx3cf43 0
theorem nmJx3cf43 : ∀ a, a < 0 → ∀ b, b < 0 → a ≠ b → (TJx3cf43 a).2.1 ≠ (TJx3cf43 b).2.1 := by decide +kernel
theorem tyJx3cf43_ok : ∀ k, k < 0 → parseFieldDescriptor (TJx3cf43 k).2.2.1 = some (tyJx3cf43 k) := by decide +kernel
def RJ7 : String := "java/util/Arrays"
def TJ7 : u_T := fun k => match k with
  | _ => ("", "", "", false)
def tyJ7 : Nat → FieldType := fun k => match k with
  | _ => .int
abbrev wsJ70 : List Cond := u_ws RJ7 TJ7 0
theorem nmJ7 : ∀ a, a < 0 → ∀ b, b < 0 → a ≠ b → (TJ7 a).2.1 ≠ (TJ7 b).2.1 := by decide +kernel
theorem tyJ7_ok : ∀ k, k < 0 → parseFieldDescriptor (TJ7 k).2.2.1 = some (tyJ7 k) := by decide +kernel
abbrev cJ7_fill_53178 : ByteArray := prog_21_method_103_code
def yJ7_fill_53178 : MethodName := ⟨RJ7, "fill", "([II)V"⟩
def RL : String := "TextMorphLaw"
abbrev cL_set : ByteArray := method_3_code
def yL_set : MethodName := ⟨RL, "set", "(LTextMorph;II[J)I"⟩
abbrev cL_load : ByteArray := method_4_code
def yL_load : MethodName := ⟨RL, "load", "(LTextMorph;I[J)I"⟩
abbrev cL_put : ByteArray := method_5_code
def yL_put : MethodName := ⟨RL, "put", "(LTextMorph;IIII[J)I"⟩
abbrev cL_undo : ByteArray := method_6_code
def yL_undo : MethodName := ⟨RL, "undo", "(LTextMorph;[J)I"⟩
abbrev cL_append : ByteArray := method_7_code
def yL_append : MethodName := ⟨RL, "append", "(LTextMorph;I[J)I"⟩
abbrev cL_letter : ByteArray := method_8_code
def yL_letter : MethodName := ⟨RL, "letter", "(LTextMorph;III[J)I"⟩
abbrev cL_way : ByteArray := method_9_code
def yL_way : MethodName := ⟨RL, "way", "(LTextMorph;II[J)I"⟩
abbrev cL_at : ByteArray := method_10_code
def yL_at : MethodName := ⟨RL, "at", "(LTextMorph;III[J)I"⟩
abbrev cL_place : ByteArray := method_11_code
def yL_place : MethodName := ⟨RL, "place", "(LTextMorph;II[J)I"⟩
abbrev cL_frame : ByteArray := method_12_code
def yL_frame : MethodName := ⟨RL, "frame", "(LTextMorph;II[J)I"⟩
abbrev cL_count : ByteArray := method_13_code
def yL_count : MethodName := ⟨RL, "count", "(LTextMorph;I[J)I"⟩
abbrev cL_setting : ByteArray := method_14_code
def yL_setting : MethodName := ⟨RL, "setting", "(LTextMorph;I[J)I"⟩
abbrev cL_ifSet : ByteArray := method_15_code
def yL_ifSet : MethodName := ⟨RL, "ifSet", "(LTextMorph;III[J)I"⟩
abbrev cL_law : ByteArray := code
def yL_law : MethodName := ⟨RL, "law", "([I)Z"⟩
abbrev vwCl : List vw_C := [(RX0, TX0, 3), (RX1, TX1, 9), (RX2, TX2, 13), (RX3, TX3, 7), (RX4, TX4, 3), (RX5, TX5, 3), (RX6, TX6, 8), (RX7, TX7, 21)]
theorem goodIn_sub {big ws : List Cond} (hm : ∀ w ∈ ws, w ∈ big) (h : ws.all goodWord = true) : GoodIn big ws := fun w hw => ⟨hm w hw, good_of_word (List.all_eq_true.mp h w hw)⟩
/-- the two links across the nest -/
def nwM : Cond := Cond.methodLinkNest "TextMorph$Buffer" (28 : Nat) ({ cls := "TextMorph", name := "isLetter", desc := "(I)Z" } : MethodName) "TextMorph"
def nwF : Cond := Cond.fieldLinkNest "TextMorph$State" (25 : Nat) "TextMorph" "VALUE_AT_FIRST" "[I" "TextMorph"
theorem nwM_in : nwM ∈ lw_tbl := List.mem_append_right _ (List.mem_of_getElem? (i := 399) (by decide +kernel))
theorem nwF_in : nwF ∈ lw_tbl := List.mem_append_right _ (List.mem_of_getElem? (i := 61) (by decide +kernel))
/-- words of exceptions that a call doesn't keep by itself, strings, casts that fail -/
def xCd (w : Cond) : Bool := match w with
  | .castable _ _ => true
  | .declares _ => true
  | _ => false
def xEx : List Cond := lw_tbl.filter xCd
def xStr : List (Nat × String) := [(71, "no such setting"), (82, "the value is out of range"), (92, "no such text"), (101, "the buffer has a syntax error"), (113, "no such text or cell"), (118, "neither a letter nor a blank"), (125, "the text would have too many letters"), (141, "no state is saved"), (146, "no such character"), (148, "the buffer is full"), (153, "no such text or letter"), (155, "no such property"), (164, "no such piece"), (173, "no such frame or cell"), (178, "no such frame or piece"), (183, "no such frame"), (188, "no such number"), (194, "the value or the number is out of range")]
def xNc : List (String × String) := [("java/lang/IllegalArgumentException", "java/lang/IndexOutOfBoundsException"), ("java/lang/IllegalStateException", "java/lang/IndexOutOfBoundsException"), ("java/lang/IllegalStateException", "java/lang/IllegalArgumentException")]
def NX (s : State) : Prop := ∀ w ∈ xEx, va_Nw w s
def XS (s : State) : Prop := ∀ z ∈ xStr, ∃ a : Nat, vk_R RX6 z.1 z.2 a s
def NC (s : State) : Prop := ∀ z ∈ xNc, va_Nc z.1 z.2 s
theorem xCd_ot {w : Cond} (h : xCd w = true) : w.onTables = true := by
  unfold xCd at h
  split at h
  · rfl
  · rfl
  · cases h
theorem xCd_warm {w : Cond} (h : xCd w = true) {s U : State} (hW : s.WarmedH U.vm) (z : va_Nw w s) : va_Nw w U := by
  have ho := xCd_ot h
  have z1 : w.before #[] s = true := va_Nw.use ho z
  have z2 : w.before #[] (s.setVm U.vm) = true := by
    unfold xCd at h
    split at h
    · rw [Cond.castable_setVm hW.alike]; exact z1
    · rw [Cond.declares_setVm hW.alike]; exact z1
    · cases h
  exact va_Nw.of (A := #[]) ho (va_tabs (A := #[]) (A' := #[]) (u := s.setVm U.vm) ho rfl z2)
def NF (s : State) : Prop := va_Nw nwM s ∧ va_Nw nwF s ∧ NX s ∧ XS s ∧ NC s ∧ va_AO RX4 s
theorem NF.same {u U : State} (h : u.vm = U.vm) (z : NF u) : NF U := ⟨va_Nw.same rfl h z.1, va_Nw.same rfl h z.2.1, fun w hw => va_Nw.same (xCd_ot (List.mem_filter.mp hw).2) h (z.2.2.1 w hw), fun q hq => by obtain ⟨a, ha⟩ := z.2.2.2.1 q hq; exact ⟨a, vk_R.same h.symm ha⟩, fun q hq => (z.2.2.2.2.1 q hq).moved (by rw [h]; exact Vm.Alike.refl _), z.2.2.2.2.2.moved (by rw [h]; exact Vm.Alike.refl _)⟩
theorem NF.warm {s U : State} (hW : s.WarmedH U.vm) (z : NF s) : NF U := ⟨va_Nw.warmM hW z.1, va_Nw.warmF hW z.2.1, fun w hw => xCd_warm (List.mem_filter.mp hw).2 hW (z.2.2.1 w hw), fun q hq => by obtain ⟨a, ha⟩ := z.2.2.2.1 q hq; exact ⟨a, vk_R.warm hW ha⟩, fun q hq => (z.2.2.2.2.1 q hq).moved hW.alike, z.2.2.2.2.2.moved hW.alike⟩
