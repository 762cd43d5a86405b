section
-- ===== PART A: goes FIRST, ahead of the names: the tables' words, and 'selects' of the private methods out of them =====
/-- a private method of a class that the tables say can be made, by its rows of tables_1 -/
def lw_okq (q : MethodName × Nat) : Prop := (q.1.cls ≠ "java/lang/invoke/MethodHandle" ∧ q.1.cls ≠ "java/lang/invoke/VarHandle") ∧ Cond.instantiable q.1.cls q.2 ∈ tables_1 ∧ Cond.privateMethod q.1 ∈ tables_1 ∧ Cond.instanceMethod q.1 ∈ tables_1
theorem lw_p0 : lw_okq (⟨"TextMorph", "save", "()V"⟩, 8) := ⟨⟨by decide +kernel, by decide +kernel⟩, List.mem_of_getElem? (i := 21) (by decide +kernel), List.mem_of_getElem? (i := 253) (by decide +kernel), List.mem_of_getElem? (i := 254) (by decide +kernel)⟩
theorem lw_p1 : lw_okq (⟨"TextMorph", "refresh", "()V"⟩, 8) := ⟨⟨by decide +kernel, by decide +kernel⟩, List.mem_of_getElem? (i := 21) (by decide +kernel), List.mem_of_getElem? (i := 286) (by decide +kernel), List.mem_of_getElem? (i := 287) (by decide +kernel)⟩
theorem lw_p2 : lw_okq (⟨"TextMorph$Pairs", "unpairAll", "()V"⟩, 7) := ⟨⟨by decide +kernel, by decide +kernel⟩, List.mem_of_getElem? (i := 87) (by decide +kernel), List.mem_of_getElem? (i := 298) (by decide +kernel), List.mem_of_getElem? (i := 299) (by decide +kernel)⟩
theorem lw_p3 : lw_okq (⟨"TextMorph$Pairs", "pairCommon", "()V"⟩, 7) := ⟨⟨by decide +kernel, by decide +kernel⟩, List.mem_of_getElem? (i := 87) (by decide +kernel), List.mem_of_getElem? (i := 304) (by decide +kernel), List.mem_of_getElem? (i := 305) (by decide +kernel)⟩
theorem lw_p4 : lw_okq (⟨"TextMorph$Pairs", "measureLongest", "()V"⟩, 7) := ⟨⟨by decide +kernel, by decide +kernel⟩, List.mem_of_getElem? (i := 87) (by decide +kernel), List.mem_of_getElem? (i := 308) (by decide +kernel), List.mem_of_getElem? (i := 309) (by decide +kernel)⟩
theorem lw_p5 : lw_okq (⟨"TextMorph$Pairs", "partnerThatLeaves", "(III)I"⟩, 7) := ⟨⟨by decide +kernel, by decide +kernel⟩, List.mem_of_getElem? (i := 87) (by decide +kernel), List.mem_of_getElem? (i := 319) (by decide +kernel), List.mem_of_getElem? (i := 320) (by decide +kernel)⟩
theorem lw_p6 : lw_okq (⟨"TextMorph$Pairs", "pair", "(III)V"⟩, 7) := ⟨⟨by decide +kernel, by decide +kernel⟩, List.mem_of_getElem? (i := 87) (by decide +kernel), List.mem_of_getElem? (i := 323) (by decide +kernel), List.mem_of_getElem? (i := 324) (by decide +kernel)⟩
theorem lw_p7 : lw_okq (⟨"TextMorph$Pairs", "pairNearest", "(II)Z"⟩, 7) := ⟨⟨by decide +kernel, by decide +kernel⟩, List.mem_of_getElem? (i := 87) (by decide +kernel), List.mem_of_getElem? (i := 327) (by decide +kernel), List.mem_of_getElem? (i := 328) (by decide +kernel)⟩
theorem lw_p8 : lw_okq (⟨"TextMorph$Pairs", "mayBePaired", "(III)Z"⟩, 7) := ⟨⟨by decide +kernel, by decide +kernel⟩, List.mem_of_getElem? (i := 87) (by decide +kernel), List.mem_of_getElem? (i := 331) (by decide +kernel), List.mem_of_getElem? (i := 332) (by decide +kernel)⟩
theorem lw_p9 : lw_okq (⟨"TextMorph$Motion", "start", "()V"⟩, 13) := ⟨⟨by decide +kernel, by decide +kernel⟩, List.mem_of_getElem? (i := 123) (by decide +kernel), List.mem_of_getElem? (i := 354) (by decide +kernel), List.mem_of_getElem? (i := 355) (by decide +kernel)⟩
theorem lw_p10 : lw_okq (⟨"TextMorph$Motion", "record", "(I)V"⟩, 13) := ⟨⟨by decide +kernel, by decide +kernel⟩, List.mem_of_getElem? (i := 123) (by decide +kernel), List.mem_of_getElem? (i := 360) (by decide +kernel), List.mem_of_getElem? (i := 361) (by decide +kernel)⟩
theorem lw_p11 : lw_okq (⟨"TextMorph$Motion", "movePieces", "(I)V"⟩, 13) := ⟨⟨by decide +kernel, by decide +kernel⟩, List.mem_of_getElem? (i := 123) (by decide +kernel), List.mem_of_getElem? (i := 365) (by decide +kernel), List.mem_of_getElem? (i := 366) (by decide +kernel)⟩
theorem lw_p12 : lw_okq (⟨"TextMorph$Motion", "moveOrHold", "(II)V"⟩, 13) := ⟨⟨by decide +kernel, by decide +kernel⟩, List.mem_of_getElem? (i := 123) (by decide +kernel), List.mem_of_getElem? (i := 369) (by decide +kernel), List.mem_of_getElem? (i := 370) (by decide +kernel)⟩
theorem lw_p13 : lw_okq (⟨"TextMorph$Motion", "nextCell", "(II)I"⟩, 13) := ⟨⟨by decide +kernel, by decide +kernel⟩, List.mem_of_getElem? (i := 123) (by decide +kernel), List.mem_of_getElem? (i := 373) (by decide +kernel), List.mem_of_getElem? (i := 374) (by decide +kernel)⟩
theorem lw_p14 : lw_okq (⟨"TextMorph$Motion", "goesAlongRow", "(II)Z"⟩, 13) := ⟨⟨by decide +kernel, by decide +kernel⟩, List.mem_of_getElem? (i := 123) (by decide +kernel), List.mem_of_getElem? (i := 378) (by decide +kernel), List.mem_of_getElem? (i := 379) (by decide +kernel)⟩
theorem lw_p15 : lw_okq (⟨"TextMorph", "mixNumbers", "(J)J"⟩, 8) := ⟨⟨by decide +kernel, by decide +kernel⟩, List.mem_of_getElem? (i := 21) (by decide +kernel), List.mem_of_getElem? (i := 416) (by decide +kernel), List.mem_of_getElem? (i := 417) (by decide +kernel)⟩
def lw_privs_1 : List (MethodName × Nat) := [(⟨"TextMorph", "save", "()V"⟩, 8), (⟨"TextMorph", "refresh", "()V"⟩, 8), (⟨"TextMorph$Pairs", "unpairAll", "()V"⟩, 7), (⟨"TextMorph$Pairs", "pairCommon", "()V"⟩, 7), (⟨"TextMorph$Pairs", "measureLongest", "()V"⟩, 7), (⟨"TextMorph$Pairs", "partnerThatLeaves", "(III)I"⟩, 7), (⟨"TextMorph$Pairs", "pair", "(III)V"⟩, 7), (⟨"TextMorph$Pairs", "pairNearest", "(II)Z"⟩, 7), (⟨"TextMorph$Pairs", "mayBePaired", "(III)Z"⟩, 7), (⟨"TextMorph$Motion", "start", "()V"⟩, 13), (⟨"TextMorph$Motion", "record", "(I)V"⟩, 13), (⟨"TextMorph$Motion", "movePieces", "(I)V"⟩, 13), (⟨"TextMorph$Motion", "moveOrHold", "(II)V"⟩, 13), (⟨"TextMorph$Motion", "nextCell", "(II)I"⟩, 13), (⟨"TextMorph$Motion", "goesAlongRow", "(II)Z"⟩, 13), (⟨"TextMorph", "mixNumbers", "(J)J"⟩, 8)]
theorem lw_r1 : ∀ q ∈ lw_privs_1, lw_okq q := List.forall_mem_cons.mpr ⟨lw_p0, List.forall_mem_cons.mpr ⟨lw_p1, List.forall_mem_cons.mpr ⟨lw_p2, List.forall_mem_cons.mpr ⟨lw_p3, List.forall_mem_cons.mpr ⟨lw_p4, List.forall_mem_cons.mpr ⟨lw_p5, List.forall_mem_cons.mpr ⟨lw_p6, List.forall_mem_cons.mpr ⟨lw_p7, List.forall_mem_cons.mpr ⟨lw_p8, List.forall_mem_cons.mpr ⟨lw_p9, List.forall_mem_cons.mpr ⟨lw_p10, List.forall_mem_cons.mpr ⟨lw_p11, List.forall_mem_cons.mpr ⟨lw_p12, List.forall_mem_cons.mpr ⟨lw_p13, List.forall_mem_cons.mpr ⟨lw_p14, List.forall_mem_cons.mpr ⟨lw_p15, fun _ h => absurd h List.not_mem_nil⟩⟩⟩⟩⟩⟩⟩⟩⟩⟩⟩⟩⟩⟩⟩⟩
theorem lw_p16 : lw_okq (⟨"TextMorph$Morph", "distancesOfAll", "()I"⟩, 9) := ⟨⟨by decide +kernel, by decide +kernel⟩, List.mem_of_getElem? (i := 81) (by decide +kernel), List.mem_of_getElem? (i := 425) (by decide +kernel), List.mem_of_getElem? (i := 426) (by decide +kernel)⟩
theorem lw_p17 : lw_okq (⟨"TextMorph$Morph", "vanishes", "(I)Z"⟩, 9) := ⟨⟨by decide +kernel, by decide +kernel⟩, List.mem_of_getElem? (i := 81) (by decide +kernel), List.mem_of_getElem? (i := 429) (by decide +kernel), List.mem_of_getElem? (i := 430) (by decide +kernel)⟩
theorem lw_p18 : lw_okq (⟨"TextMorph$Morph", "stepsOfAll", "()I"⟩, 9) := ⟨⟨by decide +kernel, by decide +kernel⟩, List.mem_of_getElem? (i := 81) (by decide +kernel), List.mem_of_getElem? (i := 434) (by decide +kernel), List.mem_of_getElem? (i := 435) (by decide +kernel)⟩
theorem lw_p19 : lw_okq (⟨"TextMorph$Morph", "steps", "(I)I"⟩, 9) := ⟨⟨by decide +kernel, by decide +kernel⟩, List.mem_of_getElem? (i := 81) (by decide +kernel), List.mem_of_getElem? (i := 438) (by decide +kernel), List.mem_of_getElem? (i := 439) (by decide +kernel)⟩
theorem lw_p20 : lw_okq (⟨"TextMorph", "mixLetters", "(J)J"⟩, 8) := ⟨⟨by decide +kernel, by decide +kernel⟩, List.mem_of_getElem? (i := 21) (by decide +kernel), List.mem_of_getElem? (i := 449) (by decide +kernel), List.mem_of_getElem? (i := 450) (by decide +kernel)⟩
theorem lw_p21 : lw_okq (⟨"TextMorph", "mixFrames", "(J)J"⟩, 8) := ⟨⟨by decide +kernel, by decide +kernel⟩, List.mem_of_getElem? (i := 21) (by decide +kernel), List.mem_of_getElem? (i := 462) (by decide +kernel), List.mem_of_getElem? (i := 463) (by decide +kernel)⟩
theorem lw_p22 : lw_okq (⟨"TextMorph$Morph", "cellsWithLetters", "(I)I"⟩, 9) := ⟨⟨by decide +kernel, by decide +kernel⟩, List.mem_of_getElem? (i := 81) (by decide +kernel), List.mem_of_getElem? (i := 470) (by decide +kernel), List.mem_of_getElem? (i := 471) (by decide +kernel)⟩
theorem lw_p23 : lw_okq (⟨"TextMorph$Morph", "show", "(I[I)V"⟩, 9) := ⟨⟨by decide +kernel, by decide +kernel⟩, List.mem_of_getElem? (i := 81) (by decide +kernel), List.mem_of_getElem? (i := 474) (by decide +kernel), List.mem_of_getElem? (i := 475) (by decide +kernel)⟩
theorem lw_p24 : lw_okq (⟨"TextMorph$Morph", "isGone", "(II)Z"⟩, 9) := ⟨⟨by decide +kernel, by decide +kernel⟩, List.mem_of_getElem? (i := 81) (by decide +kernel), List.mem_of_getElem? (i := 483) (by decide +kernel), List.mem_of_getElem? (i := 484) (by decide +kernel)⟩
theorem lw_p25 : lw_okq (⟨"TextMorph$Morph", "movedBy", "(I)I"⟩, 9) := ⟨⟨by decide +kernel, by decide +kernel⟩, List.mem_of_getElem? (i := 81) (by decide +kernel), List.mem_of_getElem? (i := 487) (by decide +kernel), List.mem_of_getElem? (i := 488) (by decide +kernel)⟩
theorem lw_p26 : lw_okq (⟨"TextMorph$Morph", "pieceCode", "(II)I"⟩, 9) := ⟨⟨by decide +kernel, by decide +kernel⟩, List.mem_of_getElem? (i := 81) (by decide +kernel), List.mem_of_getElem? (i := 499) (by decide +kernel), List.mem_of_getElem? (i := 500) (by decide +kernel)⟩
theorem lw_p27 : lw_okq (⟨"TextMorph$Morph", "cellsThatDiffer", "(I)I"⟩, 9) := ⟨⟨by decide +kernel, by decide +kernel⟩, List.mem_of_getElem? (i := 81) (by decide +kernel), List.mem_of_getElem? (i := 508) (by decide +kernel), List.mem_of_getElem? (i := 509) (by decide +kernel)⟩
theorem lw_p28 : lw_okq (⟨"TextMorph$Morph", "sharedCells", "(I)I"⟩, 9) := ⟨⟨by decide +kernel, by decide +kernel⟩, List.mem_of_getElem? (i := 81) (by decide +kernel), List.mem_of_getElem? (i := 516) (by decide +kernel), List.mem_of_getElem? (i := 517) (by decide +kernel)⟩
theorem lw_p29 : lw_okq (⟨"TextMorph$Morph", "piecesLeft", "(I)I"⟩, 9) := ⟨⟨by decide +kernel, by decide +kernel⟩, List.mem_of_getElem? (i := 81) (by decide +kernel), List.mem_of_getElem? (i := 520) (by decide +kernel), List.mem_of_getElem? (i := 521) (by decide +kernel)⟩
theorem lw_p30 : lw_okq (⟨"java/lang/Throwable", "fillInStackTrace", "(I)Ljava/lang/Throwable;"⟩, 6) := ⟨⟨by decide +kernel, by decide +kernel⟩, List.mem_of_getElem? (i := 586) (by decide +kernel), List.mem_of_getElem? (i := 584) (by decide +kernel), List.mem_of_getElem? (i := 585) (by decide +kernel)⟩
theorem lw_p31 : lw_okq (⟨"TextMorph$Text", "numberLetters", "()V"⟩, 3) := ⟨⟨by decide +kernel, by decide +kernel⟩, List.mem_of_getElem? (i := 35) (by decide +kernel), List.mem_of_getElem? (i := 655) (by decide +kernel), List.mem_of_getElem? (i := 656) (by decide +kernel)⟩
def lw_privs_2 : List (MethodName × Nat) := [(⟨"TextMorph$Morph", "distancesOfAll", "()I"⟩, 9), (⟨"TextMorph$Morph", "vanishes", "(I)Z"⟩, 9), (⟨"TextMorph$Morph", "stepsOfAll", "()I"⟩, 9), (⟨"TextMorph$Morph", "steps", "(I)I"⟩, 9), (⟨"TextMorph", "mixLetters", "(J)J"⟩, 8), (⟨"TextMorph", "mixFrames", "(J)J"⟩, 8), (⟨"TextMorph$Morph", "cellsWithLetters", "(I)I"⟩, 9), (⟨"TextMorph$Morph", "show", "(I[I)V"⟩, 9), (⟨"TextMorph$Morph", "isGone", "(II)Z"⟩, 9), (⟨"TextMorph$Morph", "movedBy", "(I)I"⟩, 9), (⟨"TextMorph$Morph", "pieceCode", "(II)I"⟩, 9), (⟨"TextMorph$Morph", "cellsThatDiffer", "(I)I"⟩, 9), (⟨"TextMorph$Morph", "sharedCells", "(I)I"⟩, 9), (⟨"TextMorph$Morph", "piecesLeft", "(I)I"⟩, 9), (⟨"java/lang/Throwable", "fillInStackTrace", "(I)Ljava/lang/Throwable;"⟩, 6), (⟨"TextMorph$Text", "numberLetters", "()V"⟩, 3)]
theorem lw_r2 : ∀ q ∈ lw_privs_2, lw_okq q := List.forall_mem_cons.mpr ⟨lw_p16, List.forall_mem_cons.mpr ⟨lw_p17, List.forall_mem_cons.mpr ⟨lw_p18, List.forall_mem_cons.mpr ⟨lw_p19, List.forall_mem_cons.mpr ⟨lw_p20, List.forall_mem_cons.mpr ⟨lw_p21, List.forall_mem_cons.mpr ⟨lw_p22, List.forall_mem_cons.mpr ⟨lw_p23, List.forall_mem_cons.mpr ⟨lw_p24, List.forall_mem_cons.mpr ⟨lw_p25, List.forall_mem_cons.mpr ⟨lw_p26, List.forall_mem_cons.mpr ⟨lw_p27, List.forall_mem_cons.mpr ⟨lw_p28, List.forall_mem_cons.mpr ⟨lw_p29, List.forall_mem_cons.mpr ⟨lw_p30, List.forall_mem_cons.mpr ⟨lw_p31, fun _ h => absurd h List.not_mem_nil⟩⟩⟩⟩⟩⟩⟩⟩⟩⟩⟩⟩⟩⟩⟩⟩
theorem lw_p32 : lw_okq (⟨"TextMorph", "isPiece", "(I)Z"⟩, 8) := ⟨⟨by decide +kernel, by decide +kernel⟩, List.mem_of_getElem? (i := 21) (by decide +kernel), List.mem_of_getElem? (i := 726) (by decide +kernel), List.mem_of_getElem? (i := 727) (by decide +kernel)⟩
theorem lw_p33 : lw_okq (⟨"TextMorph", "isFrame", "(I)Z"⟩, 8) := ⟨⟨by decide +kernel, by decide +kernel⟩, List.mem_of_getElem? (i := 21) (by decide +kernel), List.mem_of_getElem? (i := 738) (by decide +kernel), List.mem_of_getElem? (i := 739) (by decide +kernel)⟩
theorem lw_p34 : lw_okq (⟨"TextMorphModel", "fresh", "()V"⟩, 21) := ⟨⟨by decide +kernel, by decide +kernel⟩, List.mem_of_getElem? (i := 783) (by decide +kernel), List.mem_of_getElem? (i := 789) (by decide +kernel), List.mem_of_getElem? (i := 790) (by decide +kernel)⟩
theorem lw_p35 : lw_okq (⟨"TextMorphModel", "save", "()V"⟩, 21) := ⟨⟨by decide +kernel, by decide +kernel⟩, List.mem_of_getElem? (i := 783) (by decide +kernel), List.mem_of_getElem? (i := 869) (by decide +kernel), List.mem_of_getElem? (i := 870) (by decide +kernel)⟩
theorem lw_p36 : lw_okq (⟨"TextMorphModel", "lettersOf", "(I)I"⟩, 21) := ⟨⟨by decide +kernel, by decide +kernel⟩, List.mem_of_getElem? (i := 783) (by decide +kernel), List.mem_of_getElem? (i := 873) (by decide +kernel), List.mem_of_getElem? (i := 874) (by decide +kernel)⟩
theorem lw_p37 : lw_okq (⟨"TextMorphModel", "replaced", "(II)I"⟩, 21) := ⟨⟨by decide +kernel, by decide +kernel⟩, List.mem_of_getElem? (i := 783) (by decide +kernel), List.mem_of_getElem? (i := 890) (by decide +kernel), List.mem_of_getElem? (i := 891) (by decide +kernel)⟩
theorem lw_p38 : lw_okq (⟨"TextMorphModel", "lay", "()V"⟩, 21) := ⟨⟨by decide +kernel, by decide +kernel⟩, List.mem_of_getElem? (i := 783) (by decide +kernel), List.mem_of_getElem? (i := 911) (by decide +kernel), List.mem_of_getElem? (i := 912) (by decide +kernel)⟩
theorem lw_p39 : lw_okq (⟨"TextMorphModel", "layLetters", "()V"⟩, 21) := ⟨⟨by decide +kernel, by decide +kernel⟩, List.mem_of_getElem? (i := 783) (by decide +kernel), List.mem_of_getElem? (i := 915) (by decide +kernel), List.mem_of_getElem? (i := 916) (by decide +kernel)⟩
theorem lw_p40 : lw_okq (⟨"TextMorphModel", "layCommon", "()V"⟩, 21) := ⟨⟨by decide +kernel, by decide +kernel⟩, List.mem_of_getElem? (i := 783) (by decide +kernel), List.mem_of_getElem? (i := 919) (by decide +kernel), List.mem_of_getElem? (i := 920) (by decide +kernel)⟩
theorem lw_p41 : lw_okq (⟨"TextMorphModel", "areEqual", "(II)Z"⟩, 21) := ⟨⟨by decide +kernel, by decide +kernel⟩, List.mem_of_getElem? (i := 783) (by decide +kernel), List.mem_of_getElem? (i := 923) (by decide +kernel), List.mem_of_getElem? (i := 924) (by decide +kernel)⟩
theorem lw_p42 : lw_okq (⟨"TextMorphModel", "pair", "(III)V"⟩, 21) := ⟨⟨by decide +kernel, by decide +kernel⟩, List.mem_of_getElem? (i := 783) (by decide +kernel), List.mem_of_getElem? (i := 927) (by decide +kernel), List.mem_of_getElem? (i := 928) (by decide +kernel)⟩
theorem lw_p43 : lw_okq (⟨"TextMorphModel", "layNearest", "(I)V"⟩, 21) := ⟨⟨by decide +kernel, by decide +kernel⟩, List.mem_of_getElem? (i := 783) (by decide +kernel), List.mem_of_getElem? (i := 931) (by decide +kernel), List.mem_of_getElem? (i := 932) (by decide +kernel)⟩
theorem lw_p44 : lw_okq (⟨"TextMorphModel", "canPair", "(III)Z"⟩, 21) := ⟨⟨by decide +kernel, by decide +kernel⟩, List.mem_of_getElem? (i := 783) (by decide +kernel), List.mem_of_getElem? (i := 935) (by decide +kernel), List.mem_of_getElem? (i := 936) (by decide +kernel)⟩
theorem lw_p45 : lw_okq (⟨"TextMorphModel", "distance", "(II)I"⟩, 21) := ⟨⟨by decide +kernel, by decide +kernel⟩, List.mem_of_getElem? (i := 783) (by decide +kernel), List.mem_of_getElem? (i := 939) (by decide +kernel), List.mem_of_getElem? (i := 940) (by decide +kernel)⟩
theorem lw_p46 : lw_okq (⟨"TextMorphModel", "of", "(I)I"⟩, 21) := ⟨⟨by decide +kernel, by decide +kernel⟩, List.mem_of_getElem? (i := 783) (by decide +kernel), List.mem_of_getElem? (i := 946) (by decide +kernel), List.mem_of_getElem? (i := 947) (by decide +kernel)⟩
theorem lw_p47 : lw_okq (⟨"TextMorphModel", "layFrames", "()V"⟩, 21) := ⟨⟨by decide +kernel, by decide +kernel⟩, List.mem_of_getElem? (i := 783) (by decide +kernel), List.mem_of_getElem? (i := 950) (by decide +kernel), List.mem_of_getElem? (i := 951) (by decide +kernel)⟩
def lw_privs_3 : List (MethodName × Nat) := [(⟨"TextMorph", "isPiece", "(I)Z"⟩, 8), (⟨"TextMorph", "isFrame", "(I)Z"⟩, 8), (⟨"TextMorphModel", "fresh", "()V"⟩, 21), (⟨"TextMorphModel", "save", "()V"⟩, 21), (⟨"TextMorphModel", "lettersOf", "(I)I"⟩, 21), (⟨"TextMorphModel", "replaced", "(II)I"⟩, 21), (⟨"TextMorphModel", "lay", "()V"⟩, 21), (⟨"TextMorphModel", "layLetters", "()V"⟩, 21), (⟨"TextMorphModel", "layCommon", "()V"⟩, 21), (⟨"TextMorphModel", "areEqual", "(II)Z"⟩, 21), (⟨"TextMorphModel", "pair", "(III)V"⟩, 21), (⟨"TextMorphModel", "layNearest", "(I)V"⟩, 21), (⟨"TextMorphModel", "canPair", "(III)Z"⟩, 21), (⟨"TextMorphModel", "distance", "(II)I"⟩, 21), (⟨"TextMorphModel", "of", "(I)I"⟩, 21), (⟨"TextMorphModel", "layFrames", "()V"⟩, 21)]
theorem lw_r3 : ∀ q ∈ lw_privs_3, lw_okq q := List.forall_mem_cons.mpr ⟨lw_p32, List.forall_mem_cons.mpr ⟨lw_p33, List.forall_mem_cons.mpr ⟨lw_p34, List.forall_mem_cons.mpr ⟨lw_p35, List.forall_mem_cons.mpr ⟨lw_p36, List.forall_mem_cons.mpr ⟨lw_p37, List.forall_mem_cons.mpr ⟨lw_p38, List.forall_mem_cons.mpr ⟨lw_p39, List.forall_mem_cons.mpr ⟨lw_p40, List.forall_mem_cons.mpr ⟨lw_p41, List.forall_mem_cons.mpr ⟨lw_p42, List.forall_mem_cons.mpr ⟨lw_p43, List.forall_mem_cons.mpr ⟨lw_p44, List.forall_mem_cons.mpr ⟨lw_p45, List.forall_mem_cons.mpr ⟨lw_p46, List.forall_mem_cons.mpr ⟨lw_p47, fun _ h => absurd h List.not_mem_nil⟩⟩⟩⟩⟩⟩⟩⟩⟩⟩⟩⟩⟩⟩⟩⟩
theorem lw_p48 : lw_okq (⟨"TextMorphModel", "ofKind", "(II)I"⟩, 21) := ⟨⟨by decide +kernel, by decide +kernel⟩, List.mem_of_getElem? (i := 783) (by decide +kernel), List.mem_of_getElem? (i := 954) (by decide +kernel), List.mem_of_getElem? (i := 955) (by decide +kernel)⟩
theorem lw_p49 : lw_okq (⟨"TextMorphModel", "layFrame", "()V"⟩, 21) := ⟨⟨by decide +kernel, by decide +kernel⟩, List.mem_of_getElem? (i := 783) (by decide +kernel), List.mem_of_getElem? (i := 958) (by decide +kernel), List.mem_of_getElem? (i := 959) (by decide +kernel)⟩
theorem lw_p50 : lw_okq (⟨"TextMorphModel", "isGoing", "(I)Z"⟩, 21) := ⟨⟨by decide +kernel, by decide +kernel⟩, List.mem_of_getElem? (i := 783) (by decide +kernel), List.mem_of_getElem? (i := 962) (by decide +kernel), List.mem_of_getElem? (i := 963) (by decide +kernel)⟩
theorem lw_p51 : lw_okq (⟨"TextMorphModel", "goal", "(I)I"⟩, 21) := ⟨⟨by decide +kernel, by decide +kernel⟩, List.mem_of_getElem? (i := 783) (by decide +kernel), List.mem_of_getElem? (i := 966) (by decide +kernel), List.mem_of_getElem? (i := 967) (by decide +kernel)⟩
theorem lw_p52 : lw_okq (⟨"TextMorphModel", "nextOf", "(I)I"⟩, 21) := ⟨⟨by decide +kernel, by decide +kernel⟩, List.mem_of_getElem? (i := 783) (by decide +kernel), List.mem_of_getElem? (i := 970) (by decide +kernel), List.mem_of_getElem? (i := 971) (by decide +kernel)⟩
theorem lw_p53 : lw_okq (⟨"TextMorphModel", "isTaken", "(II)Z"⟩, 21) := ⟨⟨by decide +kernel, by decide +kernel⟩, List.mem_of_getElem? (i := 783) (by decide +kernel), List.mem_of_getElem? (i := 974) (by decide +kernel), List.mem_of_getElem? (i := 975) (by decide +kernel)⟩
theorem lw_p54 : lw_okq (⟨"TextMorphModel", "firstMoving", "()I"⟩, 21) := ⟨⟨by decide +kernel, by decide +kernel⟩, List.mem_of_getElem? (i := 783) (by decide +kernel), List.mem_of_getElem? (i := 978) (by decide +kernel), List.mem_of_getElem? (i := 979) (by decide +kernel)⟩
theorem lw_p55 : lw_okq (⟨"TextMorphModel", "anyGoes", "()Z"⟩, 21) := ⟨⟨by decide +kernel, by decide +kernel⟩, List.mem_of_getElem? (i := 783) (by decide +kernel), List.mem_of_getElem? (i := 982) (by decide +kernel), List.mem_of_getElem? (i := 983) (by decide +kernel)⟩
theorem lw_p56 : lw_okq (⟨"TextMorphModel", "frames", "()I"⟩, 21) := ⟨⟨by decide +kernel, by decide +kernel⟩, List.mem_of_getElem? (i := 783) (by decide +kernel), List.mem_of_getElem? (i := 986) (by decide +kernel), List.mem_of_getElem? (i := 987) (by decide +kernel)⟩
theorem lw_p57 : lw_okq (⟨"TextMorphModel", "readText", "()I"⟩, 21) := ⟨⟨by decide +kernel, by decide +kernel⟩, List.mem_of_getElem? (i := 783) (by decide +kernel), List.mem_of_getElem? (i := 1002) (by decide +kernel), List.mem_of_getElem? (i := 1003) (by decide +kernel)⟩
theorem lw_p58 : lw_okq (⟨"TextMorphModel", "letterNow", "(III)I"⟩, 21) := ⟨⟨by decide +kernel, by decide +kernel⟩, List.mem_of_getElem? (i := 783) (by decide +kernel), List.mem_of_getElem? (i := 1014) (by decide +kernel), List.mem_of_getElem? (i := 1015) (by decide +kernel)⟩
theorem lw_p59 : lw_okq (⟨"TextMorphModel", "wayNow", "(II)I"⟩, 21) := ⟨⟨by decide +kernel, by decide +kernel⟩, List.mem_of_getElem? (i := 783) (by decide +kernel), List.mem_of_getElem? (i := 1022) (by decide +kernel), List.mem_of_getElem? (i := 1023) (by decide +kernel)⟩
theorem lw_p60 : lw_okq (⟨"TextMorphModel", "steps", "(I)I"⟩, 21) := ⟨⟨by decide +kernel, by decide +kernel⟩, List.mem_of_getElem? (i := 783) (by decide +kernel), List.mem_of_getElem? (i := 1026) (by decide +kernel), List.mem_of_getElem? (i := 1027) (by decide +kernel)⟩
theorem lw_p61 : lw_okq (⟨"TextMorphModel", "goneAt", "(I)I"⟩, 21) := ⟨⟨by decide +kernel, by decide +kernel⟩, List.mem_of_getElem? (i := 783) (by decide +kernel), List.mem_of_getElem? (i := 1030) (by decide +kernel), List.mem_of_getElem? (i := 1031) (by decide +kernel)⟩
theorem lw_p62 : lw_okq (⟨"TextMorphModel", "isFrame", "(I)Z"⟩, 21) := ⟨⟨by decide +kernel, by decide +kernel⟩, List.mem_of_getElem? (i := 783) (by decide +kernel), List.mem_of_getElem? (i := 1038) (by decide +kernel), List.mem_of_getElem? (i := 1039) (by decide +kernel)⟩
theorem lw_p63 : lw_okq (⟨"TextMorphModel", "shown", "(II)I"⟩, 21) := ⟨⟨by decide +kernel, by decide +kernel⟩, List.mem_of_getElem? (i := 783) (by decide +kernel), List.mem_of_getElem? (i := 1042) (by decide +kernel), List.mem_of_getElem? (i := 1043) (by decide +kernel)⟩
def lw_privs_4 : List (MethodName × Nat) := [(⟨"TextMorphModel", "ofKind", "(II)I"⟩, 21), (⟨"TextMorphModel", "layFrame", "()V"⟩, 21), (⟨"TextMorphModel", "isGoing", "(I)Z"⟩, 21), (⟨"TextMorphModel", "goal", "(I)I"⟩, 21), (⟨"TextMorphModel", "nextOf", "(I)I"⟩, 21), (⟨"TextMorphModel", "isTaken", "(II)Z"⟩, 21), (⟨"TextMorphModel", "firstMoving", "()I"⟩, 21), (⟨"TextMorphModel", "anyGoes", "()Z"⟩, 21), (⟨"TextMorphModel", "frames", "()I"⟩, 21), (⟨"TextMorphModel", "readText", "()I"⟩, 21), (⟨"TextMorphModel", "letterNow", "(III)I"⟩, 21), (⟨"TextMorphModel", "wayNow", "(II)I"⟩, 21), (⟨"TextMorphModel", "steps", "(I)I"⟩, 21), (⟨"TextMorphModel", "goneAt", "(I)I"⟩, 21), (⟨"TextMorphModel", "isFrame", "(I)Z"⟩, 21), (⟨"TextMorphModel", "shown", "(II)I"⟩, 21)]
theorem lw_r4 : ∀ q ∈ lw_privs_4, lw_okq q := List.forall_mem_cons.mpr ⟨lw_p48, List.forall_mem_cons.mpr ⟨lw_p49, List.forall_mem_cons.mpr ⟨lw_p50, List.forall_mem_cons.mpr ⟨lw_p51, List.forall_mem_cons.mpr ⟨lw_p52, List.forall_mem_cons.mpr ⟨lw_p53, List.forall_mem_cons.mpr ⟨lw_p54, List.forall_mem_cons.mpr ⟨lw_p55, List.forall_mem_cons.mpr ⟨lw_p56, List.forall_mem_cons.mpr ⟨lw_p57, List.forall_mem_cons.mpr ⟨lw_p58, List.forall_mem_cons.mpr ⟨lw_p59, List.forall_mem_cons.mpr ⟨lw_p60, List.forall_mem_cons.mpr ⟨lw_p61, List.forall_mem_cons.mpr ⟨lw_p62, List.forall_mem_cons.mpr ⟨lw_p63, fun _ h => absurd h List.not_mem_nil⟩⟩⟩⟩⟩⟩⟩⟩⟩⟩⟩⟩⟩⟩⟩⟩
theorem lw_p64 : lw_okq (⟨"TextMorphModel", "placeIn", "(II)I"⟩, 21) := ⟨⟨by decide +kernel, by decide +kernel⟩, List.mem_of_getElem? (i := 783) (by decide +kernel), List.mem_of_getElem? (i := 1046) (by decide +kernel), List.mem_of_getElem? (i := 1047) (by decide +kernel)⟩
theorem lw_p65 : lw_okq (⟨"TextMorphModel", "shownOf", "(II)I"⟩, 21) := ⟨⟨by decide +kernel, by decide +kernel⟩, List.mem_of_getElem? (i := 783) (by decide +kernel), List.mem_of_getElem? (i := 1050) (by decide +kernel), List.mem_of_getElem? (i := 1051) (by decide +kernel)⟩
theorem lw_p66 : lw_okq (⟨"TextMorphModel", "frameNow", "(II)I"⟩, 21) := ⟨⟨by decide +kernel, by decide +kernel⟩, List.mem_of_getElem? (i := 783) (by decide +kernel), List.mem_of_getElem? (i := 1062) (by decide +kernel), List.mem_of_getElem? (i := 1063) (by decide +kernel)⟩
theorem lw_p67 : lw_okq (⟨"TextMorphModel", "piecesIn", "(II)I"⟩, 21) := ⟨⟨by decide +kernel, by decide +kernel⟩, List.mem_of_getElem? (i := 783) (by decide +kernel), List.mem_of_getElem? (i := 1066) (by decide +kernel), List.mem_of_getElem? (i := 1067) (by decide +kernel)⟩
theorem lw_p68 : lw_okq (⟨"TextMorphModel", "counted", "(I)I"⟩, 21) := ⟨⟨by decide +kernel, by decide +kernel⟩, List.mem_of_getElem? (i := 783) (by decide +kernel), List.mem_of_getElem? (i := 1074) (by decide +kernel), List.mem_of_getElem? (i := 1075) (by decide +kernel)⟩
theorem lw_p69 : lw_okq (⟨"TextMorphModel", "sumOf", "(I)I"⟩, 21) := ⟨⟨by decide +kernel, by decide +kernel⟩, List.mem_of_getElem? (i := 783) (by decide +kernel), List.mem_of_getElem? (i := 1078) (by decide +kernel), List.mem_of_getElem? (i := 1079) (by decide +kernel)⟩
theorem lw_p70 : lw_okq (⟨"TextMorphModel", "ifNow", "(III)I"⟩, 21) := ⟨⟨by decide +kernel, by decide +kernel⟩, List.mem_of_getElem? (i := 783) (by decide +kernel), List.mem_of_getElem? (i := 1090) (by decide +kernel), List.mem_of_getElem? (i := 1091) (by decide +kernel)⟩
theorem lw_p71 : lw_okq (⟨"TextMorphModel", "bestNow", "()I"⟩, 21) := ⟨⟨by decide +kernel, by decide +kernel⟩, List.mem_of_getElem? (i := 783) (by decide +kernel), List.mem_of_getElem? (i := 1098) (by decide +kernel), List.mem_of_getElem? (i := 1099) (by decide +kernel)⟩
theorem lw_p72 : lw_okq (⟨"TextMorphModel", "likenessNow", "()D"⟩, 21) := ⟨⟨by decide +kernel, by decide +kernel⟩, List.mem_of_getElem? (i := 783) (by decide +kernel), List.mem_of_getElem? (i := 1106) (by decide +kernel), List.mem_of_getElem? (i := 1107) (by decide +kernel)⟩
theorem lw_p73 : lw_okq (⟨"TextMorphModel", "mix", "(J)V"⟩, 21) := ⟨⟨by decide +kernel, by decide +kernel⟩, List.mem_of_getElem? (i := 783) (by decide +kernel), List.mem_of_getElem? (i := 1116) (by decide +kernel), List.mem_of_getElem? (i := 1117) (by decide +kernel)⟩
theorem lw_p74 : lw_okq (⟨"TextMorphModel", "mixFrames", "()V"⟩, 21) := ⟨⟨by decide +kernel, by decide +kernel⟩, List.mem_of_getElem? (i := 783) (by decide +kernel), List.mem_of_getElem? (i := 1121) (by decide +kernel), List.mem_of_getElem? (i := 1122) (by decide +kernel)⟩
def lw_privs_5 : List (MethodName × Nat) := [(⟨"TextMorphModel", "placeIn", "(II)I"⟩, 21), (⟨"TextMorphModel", "shownOf", "(II)I"⟩, 21), (⟨"TextMorphModel", "frameNow", "(II)I"⟩, 21), (⟨"TextMorphModel", "piecesIn", "(II)I"⟩, 21), (⟨"TextMorphModel", "counted", "(I)I"⟩, 21), (⟨"TextMorphModel", "sumOf", "(I)I"⟩, 21), (⟨"TextMorphModel", "ifNow", "(III)I"⟩, 21), (⟨"TextMorphModel", "bestNow", "()I"⟩, 21), (⟨"TextMorphModel", "likenessNow", "()D"⟩, 21), (⟨"TextMorphModel", "mix", "(J)V"⟩, 21), (⟨"TextMorphModel", "mixFrames", "()V"⟩, 21)]
theorem lw_r5 : ∀ q ∈ lw_privs_5, lw_okq q := List.forall_mem_cons.mpr ⟨lw_p64, List.forall_mem_cons.mpr ⟨lw_p65, List.forall_mem_cons.mpr ⟨lw_p66, List.forall_mem_cons.mpr ⟨lw_p67, List.forall_mem_cons.mpr ⟨lw_p68, List.forall_mem_cons.mpr ⟨lw_p69, List.forall_mem_cons.mpr ⟨lw_p70, List.forall_mem_cons.mpr ⟨lw_p71, List.forall_mem_cons.mpr ⟨lw_p72, List.forall_mem_cons.mpr ⟨lw_p73, List.forall_mem_cons.mpr ⟨lw_p74, fun _ h => absurd h List.not_mem_nil⟩⟩⟩⟩⟩⟩⟩⟩⟩⟩⟩
def lw_privs : List (MethodName × Nat) := lw_privs_1 ++ (lw_privs_2 ++ (lw_privs_3 ++ (lw_privs_4 ++ (lw_privs_5))))
def lw_tbl : List Cond := k2_sels lw_privs ++ tables_1
theorem lw_privs_ok : ∀ q ∈ lw_privs, lw_okq q := by
  show ∀ q ∈ lw_privs_1 ++ (lw_privs_2 ++ (lw_privs_3 ++ (lw_privs_4 ++ (lw_privs_5)))), lw_okq q
  exact List.forall_mem_append.mpr ⟨lw_r1, List.forall_mem_append.mpr ⟨lw_r2, List.forall_mem_append.mpr ⟨lw_r3, List.forall_mem_append.mpr ⟨lw_r4, lw_r5⟩⟩⟩⟩
/-- the streams that the claim lets the run draw from -/
abbrev lw_cs : List Choice := [Jvm.Choice.named "NaN.bits"]
theorem lw_bits : nanBits ∈ lw_cs := by first | decide | exact List.mem_cons_self | simp [lw_cs, nanBits]

def RX0 : String := "TextMorph$Buffer"
def TX0 : u_T := fun k => match k with
  | 0 => ("TextMorph$Buffer", "signs", "[I", true)
  | 1 => ("TextMorph$Buffer", "cells", "[I", true)
  | _ => ("TextMorph$Buffer", "length", "I", false)
def tyX0 : Nat → FieldType := fun k => match k with
  | 0 => .array .int
  | 1 => .array .int
  | _ => .int
abbrev wsX00 : List Cond := u_ws RX0 TX0 3
theorem nmX0 : ∀ a, a < 3 → ∀ b, b < 3 → a ≠ b → (TX0 a).2.1 ≠ (TX0 b).2.1 := by decide +kernel
theorem tyX0_ok : ∀ k, k < 3 → parseFieldDescriptor (TX0 k).2.2.1 = some (tyX0 k) := by decide +kernel
abbrev cX0_init : ByteArray := prog_2_method_1_code
def yX0_init : MethodName := ⟨RX0, "<init>", "()V"⟩
abbrev cX0_read : ByteArray := prog_2_method_2_code
def yX0_read : MethodName := ⟨RX0, "read", "()I"⟩
def RX1 : String := "TextMorph$Morph"
def TX1 : u_T := fun k => match k with
  | 0 => ("TextMorph$Morph", "pairs", "LTextMorph$Pairs;", true)
  | 1 => ("TextMorph$Morph", "motion", "LTextMorph$Motion;", true)
  | 2 => ("TextMorph$Morph", "state", "LTextMorph$State;", true)
  | 3 => ("TextMorph$Morph", "goneFrom", "[I", true)
  | 4 => ("TextMorph$Morph", "thereFrom", "[I", true)
  | 5 => ("TextMorph$Morph", "shown", "[I", true)
  | 6 => ("TextMorph$Morph", "shownBefore", "[I", true)
  | 7 => ("TextMorph$Morph", "piecesIn", "[I", true)
  | _ => ("TextMorph$Morph", "stillFrames", "I", false)
def tyX1 : Nat → FieldType := fun k => match k with
  | 0 => .object "TextMorph$Pairs"
  | 1 => .object "TextMorph$Motion"
  | 2 => .object "TextMorph$State"
  | 3 => .array .int
  | 4 => .array .int
  | 5 => .array .int
  | 6 => .array .int
  | 7 => .array .int
  | _ => .int
abbrev wsX10 : List Cond := u_ws RX1 TX1 9
theorem nmX1 : ∀ a, a < 9 → ∀ b, b < 9 → a ≠ b → (TX1 a).2.1 ≠ (TX1 b).2.1 := by decide +kernel
theorem tyX1_ok : ∀ k, k < 9 → parseFieldDescriptor (TX1 k).2.2.1 = some (tyX1 k) := by decide +kernel
abbrev cX1_init : ByteArray := prog_3_method_1_code
def yX1_init : MethodName := ⟨RX1, "<init>", "(LTextMorph$State;)V"⟩
abbrev cX1_work : ByteArray := prog_3_method_2_code
def yX1_work : MethodName := ⟨RX1, "work", "()V"⟩
abbrev cX1_frames : ByteArray := prog_3_method_3_code
def yX1_frames : MethodName := ⟨RX1, "frames", "()I"⟩
abbrev cX1_number : ByteArray := prog_3_method_4_code
def yX1_number : MethodName := ⟨RX1, "number", "(I)I"⟩
abbrev cX1_letterProperty : ByteArray := prog_3_method_5_code
def yX1_letterProperty : MethodName := ⟨RX1, "letterProperty", "(III)I"⟩
abbrev cX1_wayProperty : ByteArray := prog_3_method_6_code
def yX1_wayProperty : MethodName := ⟨RX1, "wayProperty", "(II)I"⟩
abbrev cX1_cellOf : ByteArray := prog_3_method_7_code
def yX1_cellOf : MethodName := ⟨RX1, "cellOf", "(II)I"⟩
abbrev cX1_codeShown : ByteArray := prog_3_method_8_code
def yX1_codeShown : MethodName := ⟨RX1, "codeShown", "(II)I"⟩
abbrev cX1_frameProperty : ByteArray := prog_3_method_9_code
def yX1_frameProperty : MethodName := ⟨RX1, "frameProperty", "(II)I"⟩
abbrev cX1_distancesOfAll : ByteArray := prog_3_method_10_code
def yX1_distancesOfAll : MethodName := ⟨RX1, "distancesOfAll", "()I"⟩
abbrev cX1_stepsOfAll : ByteArray := prog_3_method_11_code
def yX1_stepsOfAll : MethodName := ⟨RX1, "stepsOfAll", "()I"⟩
abbrev cX1_steps : ByteArray := prog_3_method_12_code
def yX1_steps : MethodName := ⟨RX1, "steps", "(I)I"⟩
abbrev cX1_vanishes : ByteArray := prog_3_method_13_code
def yX1_vanishes : MethodName := ⟨RX1, "vanishes", "(I)Z"⟩
abbrev cX1_isGone : ByteArray := prog_3_method_14_code
def yX1_isGone : MethodName := ⟨RX1, "isGone", "(II)Z"⟩
abbrev cX1_movedBy : ByteArray := prog_3_method_15_code
def yX1_movedBy : MethodName := ⟨RX1, "movedBy", "(I)I"⟩
abbrev cX1_pieceCode : ByteArray := prog_3_method_16_code
def yX1_pieceCode : MethodName := ⟨RX1, "pieceCode", "(II)I"⟩
abbrev cX1_show : ByteArray := prog_3_method_17_code
def yX1_show : MethodName := ⟨RX1, "show", "(I[I)V"⟩
abbrev cX1_cellsWithLetters : ByteArray := prog_3_method_18_code
def yX1_cellsWithLetters : MethodName := ⟨RX1, "cellsWithLetters", "(I)I"⟩
abbrev cX1_cellsThatDiffer : ByteArray := prog_3_method_19_code
def yX1_cellsThatDiffer : MethodName := ⟨RX1, "cellsThatDiffer", "(I)I"⟩
abbrev cX1_sharedCells : ByteArray := prog_3_method_20_code
def yX1_sharedCells : MethodName := ⟨RX1, "sharedCells", "(I)I"⟩
abbrev cX1_piecesLeft : ByteArray := prog_3_method_21_code
def yX1_piecesLeft : MethodName := ⟨RX1, "piecesLeft", "(I)I"⟩
def RX2 : String := "TextMorph$Motion"
def TX2 : u_T := fun k => match k with
  | 0 => ("TextMorph$Motion", "goals", "[I", true)
  | 1 => ("TextMorph$Motion", "heldFrames", "[I", true)
  | 2 => ("TextMorph$Motion", "arrivals", "[I", true)
  | 3 => ("TextMorph$Motion", "frames", "I", false)
  | 4 => ("TextMorph$Motion", "heldInAll", "I", false)
  | 5 => ("TextMorph$Motion", "state", "LTextMorph$State;", true)
  | 6 => ("TextMorph$Motion", "pairs", "LTextMorph$Pairs;", true)
  | 7 => ("TextMorph$Motion", "cells", "[I", true)
  | 8 => ("TextMorph$Motion", "heldLately", "[I", true)
  | 9 => ("TextMorph$Motion", "piecesIn", "[I", true)
  | 10 => ("TextMorph$Motion", "heldPieces", "[I", true)
  | 11 => ("TextMorph$Motion", "track", "[I", true)
  | _ => ("TextMorph$Motion", "away", "I", false)
def tyX2 : Nat → FieldType := fun k => match k with
  | 0 => .array .int
  | 1 => .array .int
  | 2 => .array .int
  | 3 => .int
  | 4 => .int
  | 5 => .object "TextMorph$State"
  | 6 => .object "TextMorph$Pairs"
  | 7 => .array .int
  | 8 => .array .int
  | 9 => .array .int
  | 10 => .array .int
  | 11 => .array .int
  | _ => .int
abbrev wsX20 : List Cond := u_ws RX2 TX2 13
theorem nmX2 : ∀ a, a < 13 → ∀ b, b < 13 → a ≠ b → (TX2 a).2.1 ≠ (TX2 b).2.1 := by decide +kernel
theorem tyX2_ok : ∀ k, k < 13 → parseFieldDescriptor (TX2 k).2.2.1 = some (tyX2 k) := by decide +kernel
abbrev cX2_init : ByteArray := prog_4_method_1_code
def yX2_init : MethodName := ⟨RX2, "<init>", "(LTextMorph$State;LTextMorph$Pairs;)V"⟩
abbrev cX2_work : ByteArray := prog_4_method_2_code
def yX2_work : MethodName := ⟨RX2, "work", "()V"⟩
abbrev cX2_cellAfter : ByteArray := prog_4_method_3_code
def yX2_cellAfter : MethodName := ⟨RX2, "cellAfter", "(II)I"⟩
abbrev cX2_isAtGoalAfter : ByteArray := prog_4_method_4_code
def yX2_isAtGoalAfter : MethodName := ⟨RX2, "isAtGoalAfter", "(II)Z"⟩
abbrev cX2_heldIn : ByteArray := prog_4_method_5_code
def yX2_heldIn : MethodName := ⟨RX2, "heldIn", "(I)I"⟩
abbrev cX2_start : ByteArray := prog_4_method_6_code
def yX2_start : MethodName := ⟨RX2, "start", "()V"⟩
abbrev cX2_record : ByteArray := prog_4_method_7_code
def yX2_record : MethodName := ⟨RX2, "record", "(I)V"⟩
abbrev cX2_movePieces : ByteArray := prog_4_method_8_code
def yX2_movePieces : MethodName := ⟨RX2, "movePieces", "(I)V"⟩
abbrev cX2_moveOrHold : ByteArray := prog_4_method_9_code
def yX2_moveOrHold : MethodName := ⟨RX2, "moveOrHold", "(II)V"⟩
abbrev cX2_nextCell : ByteArray := prog_4_method_10_code
def yX2_nextCell : MethodName := ⟨RX2, "nextCell", "(II)I"⟩
abbrev cX2_goesAlongRow : ByteArray := prog_4_method_11_code
def yX2_goesAlongRow : MethodName := ⟨RX2, "goesAlongRow", "(II)Z"⟩
def RX3 : String := "TextMorph$Pairs"
def TX3 : u_T := fun k => match k with
  | 0 => ("TextMorph$Pairs", "partnerOfFirst", "[I", true)
  | 1 => ("TextMorph$Pairs", "partnerOfSecond", "[I", true)
  | 2 => ("TextMorph$Pairs", "kindOfFirst", "[I", true)
  | 3 => ("TextMorph$Pairs", "kindOfSecond", "[I", true)
  | 4 => ("TextMorph$Pairs", "ofKind", "[I", true)
  | 5 => ("TextMorph$Pairs", "state", "LTextMorph$State;", true)
  | _ => ("TextMorph$Pairs", "longest", "[I", true)
def tyX3 : Nat → FieldType := fun k => match k with
  | 0 => .array .int
  | 1 => .array .int
  | 2 => .array .int
  | 3 => .array .int
  | 4 => .array .int
  | 5 => .object "TextMorph$State"
  | _ => .array .int
abbrev wsX30 : List Cond := u_ws RX3 TX3 7
theorem nmX3 : ∀ a, a < 7 → ∀ b, b < 7 → a ≠ b → (TX3 a).2.1 ≠ (TX3 b).2.1 := by decide +kernel
theorem tyX3_ok : ∀ k, k < 7 → parseFieldDescriptor (TX3 k).2.2.1 = some (tyX3 k) := by decide +kernel
abbrev cX3_init : ByteArray := prog_5_method_1_code
def yX3_init : MethodName := ⟨RX3, "<init>", "(LTextMorph$State;)V"⟩
abbrev cX3_work : ByteArray := prog_5_method_2_code
def yX3_work : MethodName := ⟨RX3, "work", "()V"⟩
abbrev cX3_distance : ByteArray := prog_5_method_3_code
def yX3_distance : MethodName := ⟨RX3, "distance", "(II)I"⟩
abbrev cX3_unpairAll : ByteArray := prog_5_method_4_code
def yX3_unpairAll : MethodName := ⟨RX3, "unpairAll", "()V"⟩
abbrev cX3_pair : ByteArray := prog_5_method_5_code
def yX3_pair : MethodName := ⟨RX3, "pair", "(III)V"⟩
abbrev cX3_pairCommon : ByteArray := prog_5_method_6_code
def yX3_pairCommon : MethodName := ⟨RX3, "pairCommon", "()V"⟩
abbrev cX3_measureLongest : ByteArray := prog_5_method_7_code
def yX3_measureLongest : MethodName := ⟨RX3, "measureLongest", "()V"⟩
abbrev cX3_partnerThatLeaves : ByteArray := prog_5_method_8_code
def yX3_partnerThatLeaves : MethodName := ⟨RX3, "partnerThatLeaves", "(III)I"⟩
abbrev cX3_pairNearest : ByteArray := prog_5_method_9_code
def yX3_pairNearest : MethodName := ⟨RX3, "pairNearest", "(II)Z"⟩
abbrev cX3_mayBePaired : ByteArray := prog_5_method_10_code
def yX3_mayBePaired : MethodName := ⟨RX3, "mayBePaired", "(III)Z"⟩
def RX4 : String := "TextMorph$State"
def TX4 : u_T := fun k => match k with
  | 0 => ("TextMorph$State", "settings", "[I", true)
  | 1 => ("TextMorph$State", "first", "LTextMorph$Text;", false)
  | _ => ("TextMorph$State", "second", "LTextMorph$Text;", false)
def tyX4 : Nat → FieldType := fun k => match k with
  | 0 => .array .int
  | 1 => .object "TextMorph$Text"
  | _ => .object "TextMorph$Text"
abbrev wsX40 : List Cond := u_ws RX4 TX4 3
theorem nmX4 : ∀ a, a < 3 → ∀ b, b < 3 → a ≠ b → (TX4 a).2.1 ≠ (TX4 b).2.1 := by decide +kernel
theorem tyX4_ok : ∀ k, k < 3 → parseFieldDescriptor (TX4 k).2.2.1 = some (tyX4 k) := by decide +kernel
abbrev cX4_init : ByteArray := prog_6_method_1_code
def yX4_init : MethodName := ⟨RX4, "<init>", "()V"⟩
abbrev cX4_text : ByteArray := prog_6_method_2_code
def yX4_text : MethodName := ⟨RX4, "text", "(I)LTextMorph$Text;"⟩
abbrev cX4_clear : ByteArray := prog_6_method_3_code
def yX4_clear : MethodName := ⟨RX4, "clear", "()V"⟩
abbrev cX4_copyFrom : ByteArray := prog_6_method_4_code
def yX4_copyFrom : MethodName := ⟨RX4, "copyFrom", "(LTextMorph$State;)V"⟩
abbrev cX4_exchangeTexts : ByteArray := prog_6_method_5_code
def yX4_exchangeTexts : MethodName := ⟨RX4, "exchangeTexts", "()V"⟩
def RX5 : String := "TextMorph$Text"
def TX5 : u_T := fun k => match k with
  | 0 => ("TextMorph$Text", "codes", "[I", true)
  | 1 => ("TextMorph$Text", "cells", "[I", true)
  | _ => ("TextMorph$Text", "letters", "I", false)
def tyX5 : Nat → FieldType := fun k => match k with
  | 0 => .array .int
  | 1 => .array .int
  | _ => .int
abbrev wsX50 : List Cond := u_ws RX5 TX5 3
theorem nmX5 : ∀ a, a < 3 → ∀ b, b < 3 → a ≠ b → (TX5 a).2.1 ≠ (TX5 b).2.1 := by decide +kernel
theorem tyX5_ok : ∀ k, k < 3 → parseFieldDescriptor (TX5 k).2.2.1 = some (tyX5 k) := by decide +kernel
abbrev cX5_init : ByteArray := prog_7_method_1_code
def yX5_init : MethodName := ⟨RX5, "<init>", "()V"⟩
abbrev cX5_clear : ByteArray := prog_7_method_2_code
def yX5_clear : MethodName := ⟨RX5, "clear", "()V"⟩
abbrev cX5_takeCodes : ByteArray := prog_7_method_3_code
def yX5_takeCodes : MethodName := ⟨RX5, "takeCodes", "([I)V"⟩
abbrev cX5_copyFrom : ByteArray := prog_7_method_4_code
def yX5_copyFrom : MethodName := ⟨RX5, "copyFrom", "(LTextMorph$Text;)V"⟩
abbrev cX5_write : ByteArray := prog_7_method_5_code
def yX5_write : MethodName := ⟨RX5, "write", "(II)V"⟩
abbrev cX5_rowOf : ByteArray := prog_7_method_6_code
def yX5_rowOf : MethodName := ⟨RX5, "rowOf", "(I)I"⟩
abbrev cX5_columnOf : ByteArray := prog_7_method_7_code
def yX5_columnOf : MethodName := ⟨RX5, "columnOf", "(I)I"⟩
abbrev cX5_codeOf : ByteArray := prog_7_method_8_code
def yX5_codeOf : MethodName := ⟨RX5, "codeOf", "(I)I"⟩
abbrev cX5_numberLetters : ByteArray := prog_7_method_9_code
def yX5_numberLetters : MethodName := ⟨RX5, "numberLetters", "()V"⟩
def RX6 : String := "TextMorph"
def TX6 : u_T := fun k => match k with
  | 0 => ("TextMorph", "state", "LTextMorph$State;", true)
  | 1 => ("TextMorph", "morph", "LTextMorph$Morph;", true)
  | 2 => ("TextMorph", "tried", "LTextMorph$State;", true)
  | 3 => ("TextMorph", "trial", "LTextMorph$Morph;", true)
  | 4 => ("TextMorph", "saved", "[LTextMorph$State;", true)
  | 5 => ("TextMorph", "buffer", "LTextMorph$Buffer;", true)
  | 6 => ("TextMorph", "savedStates", "I", false)
  | _ => ("TextMorph", "stale", "Z", false)
def tyX6 : Nat → FieldType := fun k => match k with
  | 0 => .object "TextMorph$State"
  | 1 => .object "TextMorph$Morph"
  | 2 => .object "TextMorph$State"
  | 3 => .object "TextMorph$Morph"
  | 4 => .array (.object "TextMorph$State")
  | 5 => .object "TextMorph$Buffer"
  | 6 => .int
  | _ => .boolean
abbrev wsX60 : List Cond := u_ws RX6 TX6 8
theorem nmX6 : ∀ a, a < 8 → ∀ b, b < 8 → a ≠ b → (TX6 a).2.1 ≠ (TX6 b).2.1 := by decide +kernel
theorem tyX6_ok : ∀ k, k < 8 → parseFieldDescriptor (TX6 k).2.2.1 = some (tyX6 k) := by decide +kernel
abbrev cX6_init : ByteArray := prog_1_method_1_code
def yX6_init : MethodName := ⟨RX6, "<init>", "()V"⟩
abbrev cX6_begin : ByteArray := prog_1_method_2_code
def yX6_begin : MethodName := ⟨RX6, "begin", "()I"⟩
abbrev cX6_set : ByteArray := prog_1_method_3_code
def yX6_set : MethodName := ⟨RX6, "set", "(II)I"⟩
abbrev cX6_load : ByteArray := prog_1_method_4_code
def yX6_load : MethodName := ⟨RX6, "load", "(I)I"⟩
abbrev cX6_put : ByteArray := prog_1_method_5_code
def yX6_put : MethodName := ⟨RX6, "put", "(IIII)I"⟩
abbrev cX6_swap : ByteArray := prog_1_method_6_code
def yX6_swap : MethodName := ⟨RX6, "swap", "()I"⟩
abbrev cX6_undo : ByteArray := prog_1_method_7_code
def yX6_undo : MethodName := ⟨RX6, "undo", "()I"⟩
abbrev cX6_append : ByteArray := prog_1_method_8_code
def yX6_append : MethodName := ⟨RX6, "append", "(I)I"⟩
abbrev cX6_clearBuffer : ByteArray := prog_1_method_9_code
def yX6_clearBuffer : MethodName := ⟨RX6, "clearBuffer", "()I"⟩
abbrev cX6_firstError : ByteArray := prog_1_method_10_code
def yX6_firstError : MethodName := ⟨RX6, "firstError", "()I"⟩
abbrev cX6_letter : ByteArray := prog_1_method_11_code
def yX6_letter : MethodName := ⟨RX6, "letter", "(III)I"⟩
abbrev cX6_way : ByteArray := prog_1_method_12_code
def yX6_way : MethodName := ⟨RX6, "way", "(II)I"⟩
abbrev cX6_at : ByteArray := prog_1_method_13_code
def yX6_at : MethodName := ⟨RX6, "at", "(III)I"⟩
abbrev cX6_place : ByteArray := prog_1_method_14_code
def yX6_place : MethodName := ⟨RX6, "place", "(II)I"⟩
abbrev cX6_frame : ByteArray := prog_1_method_15_code
def yX6_frame : MethodName := ⟨RX6, "frame", "(II)I"⟩
abbrev cX6_count : ByteArray := prog_1_method_16_code
def yX6_count : MethodName := ⟨RX6, "count", "(I)I"⟩
abbrev cX6_setting : ByteArray := prog_1_method_17_code
def yX6_setting : MethodName := ⟨RX6, "setting", "(I)I"⟩
abbrev cX6_ifSet : ByteArray := prog_1_method_18_code
def yX6_ifSet : MethodName := ⟨RX6, "ifSet", "(III)I"⟩
abbrev cX6_best : ByteArray := prog_1_method_19_code
def yX6_best : MethodName := ⟨RX6, "best", "()I"⟩
abbrev cX6_likeness : ByteArray := prog_1_method_20_code
def yX6_likeness : MethodName := ⟨RX6, "likeness", "()D"⟩
abbrev cX6_digest : ByteArray := prog_1_method_21_code
def yX6_digest : MethodName := ⟨RX6, "digest", "()J"⟩
abbrev cX6_mixNumbers : ByteArray := prog_1_method_22_code
def yX6_mixNumbers : MethodName := ⟨RX6, "mixNumbers", "(J)J"⟩
abbrev cX6_mixLetters : ByteArray := prog_1_method_23_code
def yX6_mixLetters : MethodName := ⟨RX6, "mixLetters", "(J)J"⟩
abbrev cX6_mixFrames : ByteArray := prog_1_method_24_code
def yX6_mixFrames : MethodName := ⟨RX6, "mixFrames", "(J)J"⟩
abbrev cX6_mix : ByteArray := prog_1_method_25_code
def yX6_mix : MethodName := ⟨RX6, "mix", "(JJ)J"⟩
abbrev cX6_bits : ByteArray := prog_1_method_26_code
def yX6_bits : MethodName := ⟨RX6, "bits", "(D)J"⟩
abbrev cX6_save : ByteArray := prog_1_method_27_code
def yX6_save : MethodName := ⟨RX6, "save", "()V"⟩
abbrev cX6_refresh : ByteArray := prog_1_method_28_code
def yX6_refresh : MethodName := ⟨RX6, "refresh", "()V"⟩
abbrev cX6_isFrame : ByteArray := prog_1_method_29_code
def yX6_isFrame : MethodName := ⟨RX6, "isFrame", "(I)Z"⟩
abbrev cX6_isPiece : ByteArray := prog_1_method_30_code
def yX6_isPiece : MethodName := ⟨RX6, "isPiece", "(I)Z"⟩
abbrev cX6_isText : ByteArray := prog_1_method_31_code
def yX6_isText : MethodName := ⟨RX6, "isText", "(I)Z"⟩
abbrev cX6_isCell : ByteArray := prog_1_method_32_code
def yX6_isCell : MethodName := ⟨RX6, "isCell", "(II)Z"⟩
abbrev cX6_isLetter : ByteArray := prog_1_method_33_code
def yX6_isLetter : MethodName := ⟨RX6, "isLetter", "(I)Z"⟩
abbrev cX6_isSetting : ByteArray := prog_1_method_34_code
def yX6_isSetting : MethodName := ⟨RX6, "isSetting", "(I)Z"⟩
abbrev cX6_isValue : ByteArray := prog_1_method_35_code
def yX6_isValue : MethodName := ⟨RX6, "isValue", "(II)Z"⟩
def RX7 : String := "TextMorphModel"
def TX7 : u_T := fun k => match k with
  | 0 => ("TextMorphModel", "thrown", "I", false)
  | 1 => ("TextMorphModel", "z", "[I", true)
  | 2 => ("TextMorphModel", "saves", "I", false)
  | 3 => ("TextMorphModel", "saved", "[I", true)
  | 4 => ("TextMorphModel", "length", "I", false)
  | 5 => ("TextMorphModel", "text", "[I", true)
  | 6 => ("TextMorphModel", "many", "[I", true)
  | 7 => ("TextMorphModel", "cellOf", "[I", true)
  | 8 => ("TextMorphModel", "codeOf", "[I", true)
  | 9 => ("TextMorphModel", "partner", "[I", true)
  | 10 => ("TextMorphModel", "kindOf", "[I", true)
  | 11 => ("TextMorphModel", "longest", "[I", true)
  | 12 => ("TextMorphModel", "moving", "I", false)
  | 13 => ("TextMorphModel", "spot", "[I", true)
  | 14 => ("TextMorphModel", "heldIn", "[I", true)
  | 15 => ("TextMorphModel", "heldSum", "[I", true)
  | 16 => ("TextMorphModel", "heldNow", "[I", true)
  | 17 => ("TextMorphModel", "cell", "[I", true)
  | 18 => ("TextMorphModel", "arrives", "[I", true)
  | 19 => ("TextMorphModel", "read", "[I", true)
  | _ => ("TextMorphModel", "h", "J", false)
def tyX7 : Nat → FieldType := fun k => match k with
  | 0 => .int
  | 1 => .array .int
  | 2 => .int
  | 3 => .array .int
  | 4 => .int
  | 5 => .array .int
  | 6 => .array .int
  | 7 => .array .int
  | 8 => .array .int
  | 9 => .array .int
  | 10 => .array .int
  | 11 => .array .int
  | 12 => .int
  | 13 => .array .int
  | 14 => .array .int
  | 15 => .array .int
  | 16 => .array .int
  | 17 => .array .int
  | 18 => .array .int
  | 19 => .array .int
  | _ => .long
abbrev wsX70 : List Cond := u_ws RX7 TX7 21
theorem nmX7 : ∀ a, a < 21 → ∀ b, b < 21 → a ≠ b → (TX7 a).2.1 ≠ (TX7 b).2.1 := by decide +kernel
theorem tyX7_ok : ∀ k, k < 21 → parseFieldDescriptor (TX7 k).2.2.1 = some (tyX7 k) := by decide +kernel
abbrev cX7_init : ByteArray := prog_9_method_1_code
def yX7_init : MethodName := ⟨RX7, "<init>", "()V"⟩
abbrev cX7_thrown : ByteArray := prog_9_method_2_code
def yX7_thrown : MethodName := ⟨RX7, "thrown", "()I"⟩
abbrev cX7_within : ByteArray := prog_9_method_3_code
def yX7_within : MethodName := ⟨RX7, "within", "(III)Z"⟩
abbrev cX7_fresh : ByteArray := prog_9_method_4_code
def yX7_fresh : MethodName := ⟨RX7, "fresh", "()V"⟩
abbrev cX7_of : ByteArray := prog_9_method_5_code
def yX7_of : MethodName := ⟨RX7, "of", "(I)I"⟩
abbrev cX7_isLetter : ByteArray := prog_9_method_6_code
def yX7_isLetter : MethodName := ⟨RX7, "isLetter", "(I)Z"⟩
abbrev cX7_lettersOf : ByteArray := prog_9_method_7_code
def yX7_lettersOf : MethodName := ⟨RX7, "lettersOf", "(I)I"⟩
abbrev cX7_layLetters : ByteArray := prog_9_method_8_code
def yX7_layLetters : MethodName := ⟨RX7, "layLetters", "()V"⟩
abbrev cX7_pair : ByteArray := prog_9_method_9_code
def yX7_pair : MethodName := ⟨RX7, "pair", "(III)V"⟩
abbrev cX7_size : ByteArray := prog_9_method_10_code
def yX7_size : MethodName := ⟨RX7, "size", "(I)I"⟩
abbrev cX7_distance : ByteArray := prog_9_method_11_code
def yX7_distance : MethodName := ⟨RX7, "distance", "(II)I"⟩
abbrev cX7_areEqual : ByteArray := prog_9_method_12_code
def yX7_areEqual : MethodName := ⟨RX7, "areEqual", "(II)Z"⟩
abbrev cX7_layCommon : ByteArray := prog_9_method_13_code
def yX7_layCommon : MethodName := ⟨RX7, "layCommon", "()V"⟩
abbrev cX7_canPair : ByteArray := prog_9_method_14_code
def yX7_canPair : MethodName := ⟨RX7, "canPair", "(III)Z"⟩
abbrev cX7_layNearest : ByteArray := prog_9_method_15_code
def yX7_layNearest : MethodName := ⟨RX7, "layNearest", "(I)V"⟩
abbrev cX7_ofKind : ByteArray := prog_9_method_16_code
def yX7_ofKind : MethodName := ⟨RX7, "ofKind", "(II)I"⟩
abbrev cX7_isGoing : ByteArray := prog_9_method_17_code
def yX7_isGoing : MethodName := ⟨RX7, "isGoing", "(I)Z"⟩
abbrev cX7_goal : ByteArray := prog_9_method_18_code
def yX7_goal : MethodName := ⟨RX7, "goal", "(I)I"⟩
abbrev cX7_anyGoes : ByteArray := prog_9_method_19_code
def yX7_anyGoes : MethodName := ⟨RX7, "anyGoes", "()Z"⟩
abbrev cX7_nextOf : ByteArray := prog_9_method_20_code
def yX7_nextOf : MethodName := ⟨RX7, "nextOf", "(I)I"⟩
abbrev cX7_isTaken : ByteArray := prog_9_method_21_code
def yX7_isTaken : MethodName := ⟨RX7, "isTaken", "(II)Z"⟩
abbrev cX7_firstMoving : ByteArray := prog_9_method_22_code
def yX7_firstMoving : MethodName := ⟨RX7, "firstMoving", "()I"⟩
abbrev cX7_layFrame : ByteArray := prog_9_method_23_code
def yX7_layFrame : MethodName := ⟨RX7, "layFrame", "()V"⟩
abbrev cX7_layFrames : ByteArray := prog_9_method_24_code
def yX7_layFrames : MethodName := ⟨RX7, "layFrames", "()V"⟩
abbrev cX7_lay : ByteArray := prog_9_method_25_code
def yX7_lay : MethodName := ⟨RX7, "lay", "()V"⟩
abbrev cX7_frames : ByteArray := prog_9_method_26_code
def yX7_frames : MethodName := ⟨RX7, "frames", "()I"⟩
abbrev cX7_goneAt : ByteArray := prog_9_method_27_code
def yX7_goneAt : MethodName := ⟨RX7, "goneAt", "(I)I"⟩
abbrev cX7_placeIn : ByteArray := prog_9_method_28_code
def yX7_placeIn : MethodName := ⟨RX7, "placeIn", "(II)I"⟩
abbrev cX7_shownOf : ByteArray := prog_9_method_29_code
def yX7_shownOf : MethodName := ⟨RX7, "shownOf", "(II)I"⟩
abbrev cX7_shown : ByteArray := prog_9_method_30_code
def yX7_shown : MethodName := ⟨RX7, "shown", "(II)I"⟩
abbrev cX7_save : ByteArray := prog_9_method_31_code
def yX7_save : MethodName := ⟨RX7, "save", "()V"⟩
abbrev cX7_undo : ByteArray := prog_9_method_32_code
def yX7_undo : MethodName := ⟨RX7, "undo", "()I"⟩
abbrev cX7_begin : ByteArray := prog_9_method_33_code
def yX7_begin : MethodName := ⟨RX7, "begin", "()I"⟩
abbrev cX7_isValue : ByteArray := prog_9_method_34_code
def yX7_isValue : MethodName := ⟨RX7, "isValue", "(II)Z"⟩
abbrev cX7_isSetting : ByteArray := prog_9_method_35_code
def yX7_isSetting : MethodName := ⟨RX7, "isSetting", "(I)Z"⟩
abbrev cX7_replaced : ByteArray := prog_9_method_36_code
def yX7_replaced : MethodName := ⟨RX7, "replaced", "(II)I"⟩
abbrev cX7_set : ByteArray := prog_9_method_37_code
def yX7_set : MethodName := ⟨RX7, "set", "(II)I"⟩
abbrev cX7_isText : ByteArray := prog_9_method_38_code
def yX7_isText : MethodName := ⟨RX7, "isText", "(I)Z"⟩
abbrev cX7_isCell : ByteArray := prog_9_method_39_code
def yX7_isCell : MethodName := ⟨RX7, "isCell", "(II)Z"⟩
abbrev cX7_put : ByteArray := prog_9_method_40_code
def yX7_put : MethodName := ⟨RX7, "put", "(IIII)I"⟩
abbrev cX7_swap : ByteArray := prog_9_method_41_code
def yX7_swap : MethodName := ⟨RX7, "swap", "()I"⟩
abbrev cX7_append : ByteArray := prog_9_method_42_code
def yX7_append : MethodName := ⟨RX7, "append", "(I)I"⟩
abbrev cX7_clearBuffer : ByteArray := prog_9_method_43_code
def yX7_clearBuffer : MethodName := ⟨RX7, "clearBuffer", "()I"⟩
abbrev cX7_readText : ByteArray := prog_9_method_44_code
def yX7_readText : MethodName := ⟨RX7, "readText", "()I"⟩
abbrev cX7_firstError : ByteArray := prog_9_method_45_code
def yX7_firstError : MethodName := ⟨RX7, "firstError", "()I"⟩
abbrev cX7_load : ByteArray := prog_9_method_46_code
def yX7_load : MethodName := ⟨RX7, "load", "(I)I"⟩
abbrev cX7_letterNow : ByteArray := prog_9_method_47_code
def yX7_letterNow : MethodName := ⟨RX7, "letterNow", "(III)I"⟩
abbrev cX7_letter : ByteArray := prog_9_method_48_code
def yX7_letter : MethodName := ⟨RX7, "letter", "(III)I"⟩
abbrev cX7_steps : ByteArray := prog_9_method_49_code
def yX7_steps : MethodName := ⟨RX7, "steps", "(I)I"⟩
abbrev cX7_wayNow : ByteArray := prog_9_method_50_code
def yX7_wayNow : MethodName := ⟨RX7, "wayNow", "(II)I"⟩
abbrev cX7_way : ByteArray := prog_9_method_51_code
def yX7_way : MethodName := ⟨RX7, "way", "(II)I"⟩
abbrev cX7_isFrame : ByteArray := prog_9_method_52_code
def yX7_isFrame : MethodName := ⟨RX7, "isFrame", "(I)Z"⟩
abbrev cX7_at : ByteArray := prog_9_method_53_code
def yX7_at : MethodName := ⟨RX7, "at", "(III)I"⟩
abbrev cX7_place : ByteArray := prog_9_method_54_code
def yX7_place : MethodName := ⟨RX7, "place", "(II)I"⟩
abbrev cX7_piecesIn : ByteArray := prog_9_method_55_code
def yX7_piecesIn : MethodName := ⟨RX7, "piecesIn", "(II)I"⟩
abbrev cX7_frameNow : ByteArray := prog_9_method_56_code
def yX7_frameNow : MethodName := ⟨RX7, "frameNow", "(II)I"⟩
abbrev cX7_frame : ByteArray := prog_9_method_57_code
def yX7_frame : MethodName := ⟨RX7, "frame", "(II)I"⟩
abbrev cX7_sumOf : ByteArray := prog_9_method_58_code
def yX7_sumOf : MethodName := ⟨RX7, "sumOf", "(I)I"⟩
abbrev cX7_counted : ByteArray := prog_9_method_59_code
def yX7_counted : MethodName := ⟨RX7, "counted", "(I)I"⟩
abbrev cX7_count : ByteArray := prog_9_method_60_code
def yX7_count : MethodName := ⟨RX7, "count", "(I)I"⟩
abbrev cX7_setting : ByteArray := prog_9_method_61_code
def yX7_setting : MethodName := ⟨RX7, "setting", "(I)I"⟩
abbrev cX7_ifNow : ByteArray := prog_9_method_62_code
def yX7_ifNow : MethodName := ⟨RX7, "ifNow", "(III)I"⟩
abbrev cX7_ifSet : ByteArray := prog_9_method_63_code
def yX7_ifSet : MethodName := ⟨RX7, "ifSet", "(III)I"⟩
abbrev cX7_bestNow : ByteArray := prog_9_method_64_code
def yX7_bestNow : MethodName := ⟨RX7, "bestNow", "()I"⟩
abbrev cX7_best : ByteArray := prog_9_method_65_code
def yX7_best : MethodName := ⟨RX7, "best", "()I"⟩
abbrev cX7_likenessNow : ByteArray := prog_9_method_66_code
def yX7_likenessNow : MethodName := ⟨RX7, "likenessNow", "()D"⟩
abbrev cX7_likeness : ByteArray := prog_9_method_67_code
def yX7_likeness : MethodName := ⟨RX7, "likeness", "()D"⟩
abbrev cX7_mix : ByteArray := prog_9_method_68_code
def yX7_mix : MethodName := ⟨RX7, "mix", "(J)V"⟩
abbrev cX7_mixFrames : ByteArray := prog_9_method_69_code
def yX7_mixFrames : MethodName := ⟨RX7, "mixFrames", "()V"⟩
abbrev cX7_digest : ByteArray := prog_9_method_70_code
def yX7_digest : MethodName := ⟨RX7, "digest", "()J"⟩
def RJx145de : String := "java/io/Serializable"
def TJx145de : u_T := fun k => match k with
  | _ => ("", "", "", false)
def tyJx145de : Nat → FieldType := fun k => match k with
  | _ => .int
abbrev wsJx145de0 : List Cond := u_ws RJx145de TJx145de 0
theorem nmJx145de : ∀ a, a < 0 → ∀ b, b < 0 → a ≠ b → (TJx145de a).2.1 ≠ (TJx145de b).2.1 := by decide +kernel
theorem tyJx145de_ok : ∀ k, k < 0 → parseFieldDescriptor (TJx145de k).2.2.1 = some (tyJx145de k) := by decide +kernel
def RJxb160c : String := "java/lang/Comparable"
def TJxb160c : u_T := fun k => match k with
  | _ => ("", "", "", false)
def tyJxb160c : Nat → FieldType := fun k => match k with
  | _ => .int
abbrev wsJxb160c0 : List Cond := u_ws RJxb160c TJxb160c 0
theorem nmJxb160c : ∀ a, a < 0 → ∀ b, b < 0 → a ≠ b → (TJxb160c a).2.1 ≠ (TJxb160c b).2.1 := by decide +kernel
theorem tyJxb160c_ok : ∀ k, k < 0 → parseFieldDescriptor (TJxb160c k).2.2.1 = some (tyJxb160c k) := by decide +kernel
def RJxe99ae : String := "java/lang/Double"
def TJxe99ae : u_T := fun k => match k with
  | _ => ("", "", "", false)
def tyJxe99ae : Nat → FieldType := fun k => match k with
  | _ => .int
abbrev wsJxe99ae0 : List Cond := u_ws RJxe99ae TJxe99ae 0
theorem nmJxe99ae : ∀ a, a < 0 → ∀ b, b < 0 → a ≠ b → (TJxe99ae a).2.1 ≠ (TJxe99ae b).2.1 := by decide +kernel
theorem tyJxe99ae_ok : ∀ k, k < 0 → parseFieldDescriptor (TJxe99ae k).2.2.1 = some (tyJxe99ae k) := by decide +kernel
abbrev cJxe99ae_isNaN_b9ae7 : ByteArray := prog_10_method_6_code
def yJxe99ae_isNaN_b9ae7 : MethodName := ⟨RJxe99ae, "isNaN", "(D)Z"⟩
abbrev cJxe99ae_doubleToLongBits_ccdee : ByteArray := prog_10_method_23_code
def yJxe99ae_doubleToLongBits_ccdee : MethodName := ⟨RJxe99ae, "doubleToLongBits", "(D)J"⟩
def RJ9 : String := "java/lang/Math"
def TJ9 : u_T := fun k => match k with
  | _ => ("", "", "", false)
def tyJ9 : Nat → FieldType := fun k => match k with
  | _ => .int
abbrev wsJ90 : List Cond := u_ws RJ9 TJ9 0
theorem nmJ9 : ∀ a, a < 0 → ∀ b, b < 0 → a ≠ b → (TJ9 a).2.1 ≠ (TJ9 b).2.1 := by decide +kernel
theorem tyJ9_ok : ∀ k, k < 0 → parseFieldDescriptor (TJ9 k).2.2.1 = some (tyJ9 k) := by decide +kernel
abbrev cJ9_abs_0f7a4 : ByteArray := prog_15_method_59_code
def yJ9_abs_0f7a4 : MethodName := ⟨RJ9, "abs", "(I)I"⟩
abbrev cJ9_max_7cf53 : ByteArray := prog_15_method_65_code
def yJ9_max_7cf53 : MethodName := ⟨RJ9, "max", "(II)I"⟩
abbrev cJ9_min_7cf53 : ByteArray := prog_15_method_69_code
def yJ9_min_7cf53 : MethodName := ⟨RJ9, "min", "(II)I"⟩
def RJxd2413 : String := "java/lang/Number"
def TJxd2413 : u_T := fun k => match k with
  | _ => ("", "", "", false)
def tyJxd2413 : Nat → FieldType := fun k => match k with
  | _ => .int
abbrev wsJxd24130 : List Cond := u_ws RJxd2413 TJxd2413 0
theorem nmJxd2413 : ∀ a, a < 0 → ∀ b, b < 0 → a ≠ b → (TJxd2413 a).2.1 ≠ (TJxd2413 b).2.1 := by decide +kernel
theorem tyJxd2413_ok : ∀ k, k < 0 → parseFieldDescriptor (TJxd2413 k).2.2.1 = some (tyJxd2413 k) := by decide +kernel
def RJ0 : String := "java/lang/String"
def TJ0 : u_T := fun k => match k with
  | _ => ("", "", "", false)
def tyJ0 : Nat → FieldType := fun k => match k with
  | _ => .int
abbrev wsJ00 : List Cond := u_ws RJ0 TJ0 0
theorem nmJ0 : ∀ a, a < 0 → ∀ b, b < 0 → a ≠ b → (TJ0 a).2.1 ≠ (TJ0 b).2.1 := by decide +kernel
theorem tyJ0_ok : ∀ k, k < 0 → parseFieldDescriptor (TJ0 k).2.2.1 = some (tyJ0 k) := by decide +kernel
def RJ10 : String := "java/lang/System"
def TJ10 : u_T := fun k => match k with
  | _ => ("", "", "", false)
def tyJ10 : Nat → FieldType := fun k => match k with
  | _ => .int
abbrev wsJ100 : List Cond := u_ws RJ10 TJ10 0
theorem nmJ10 : ∀ a, a < 0 → ∀ b, b < 0 → a ≠ b → (TJ10 a).2.1 ≠ (TJ10 b).2.1 := by decide +kernel
theorem tyJ10_ok : ∀ k, k < 0 → parseFieldDescriptor (TJ10 k).2.2.1 = some (tyJ10 k) := by decide +kernel
def RJxfd54e : String := "java/lang/constant/Constable"
def TJxfd54e : u_T := fun k => match k with
  | _ => ("", "", "", false)
def tyJxfd54e : Nat → FieldType := fun k => match k with
  | _ => .int
abbrev wsJxfd54e0 : List Cond := u_ws RJxfd54e TJxfd54e 0
theorem nmJxfd54e : ∀ a, a < 0 → ∀ b, b < 0 → a ≠ b → (TJxfd54e a).2.1 ≠ (TJxfd54e b).2.1 := by decide +kernel
theorem tyJxfd54e_ok : ∀ k, k < 0 → parseFieldDescriptor (TJxfd54e k).2.2.1 = some (tyJxfd54e k) := by decide +kernel
def RJx3cf43 : String := "java/lang/constant/ConstantDesc"
def TJx3cf43 : u_T := fun k => match k with
  | _ => ("", "", "", false)
def tyJx3cf43 : Nat → FieldType := fun k => match k with
  | _ => .int
abbrev wsJx3cf430 : List Cond := u_ws RJx3cf43 TJx3cf43 0
theorem nmJx3cf43 : ∀ a, a < 0 → ∀ b, b < 0 → a ≠ b → (TJx3cf43 a).2.1 ≠ (TJx3cf43 b).2.1 := by decide +kernel
theorem tyJx3cf43_ok : ∀ k, k < 0 → parseFieldDescriptor (TJx3cf43 k).2.2.1 = some (tyJx3cf43 k) := by decide +kernel
def RJ7 : String := "java/util/Arrays"
def TJ7 : u_T := fun k => match k with
  | _ => ("", "", "", false)
def tyJ7 : Nat → FieldType := fun k => match k with
  | _ => .int
abbrev wsJ70 : List Cond := u_ws RJ7 TJ7 0
theorem nmJ7 : ∀ a, a < 0 → ∀ b, b < 0 → a ≠ b → (TJ7 a).2.1 ≠ (TJ7 b).2.1 := by decide +kernel
theorem tyJ7_ok : ∀ k, k < 0 → parseFieldDescriptor (TJ7 k).2.2.1 = some (tyJ7 k) := by decide +kernel
abbrev cJ7_fill_53178 : ByteArray := prog_21_method_103_code
def yJ7_fill_53178 : MethodName := ⟨RJ7, "fill", "([II)V"⟩
def RL : String := "TextMorphLaw"
abbrev cL_set : ByteArray := method_3_code
def yL_set : MethodName := ⟨RL, "set", "(LTextMorph;II[J)I"⟩
abbrev cL_load : ByteArray := method_4_code
def yL_load : MethodName := ⟨RL, "load", "(LTextMorph;I[J)I"⟩
abbrev cL_put : ByteArray := method_5_code
def yL_put : MethodName := ⟨RL, "put", "(LTextMorph;IIII[J)I"⟩
abbrev cL_undo : ByteArray := method_6_code
def yL_undo : MethodName := ⟨RL, "undo", "(LTextMorph;[J)I"⟩
abbrev cL_append : ByteArray := method_7_code
def yL_append : MethodName := ⟨RL, "append", "(LTextMorph;I[J)I"⟩
abbrev cL_letter : ByteArray := method_8_code
def yL_letter : MethodName := ⟨RL, "letter", "(LTextMorph;III[J)I"⟩
abbrev cL_way : ByteArray := method_9_code
def yL_way : MethodName := ⟨RL, "way", "(LTextMorph;II[J)I"⟩
abbrev cL_at : ByteArray := method_10_code
def yL_at : MethodName := ⟨RL, "at", "(LTextMorph;III[J)I"⟩
abbrev cL_place : ByteArray := method_11_code
def yL_place : MethodName := ⟨RL, "place", "(LTextMorph;II[J)I"⟩
abbrev cL_frame : ByteArray := method_12_code
def yL_frame : MethodName := ⟨RL, "frame", "(LTextMorph;II[J)I"⟩
abbrev cL_count : ByteArray := method_13_code
def yL_count : MethodName := ⟨RL, "count", "(LTextMorph;I[J)I"⟩
abbrev cL_setting : ByteArray := method_14_code
def yL_setting : MethodName := ⟨RL, "setting", "(LTextMorph;I[J)I"⟩
abbrev cL_ifSet : ByteArray := method_15_code
def yL_ifSet : MethodName := ⟨RL, "ifSet", "(LTextMorph;III[J)I"⟩
abbrev cL_law : ByteArray := code
def yL_law : MethodName := ⟨RL, "law", "([I)Z"⟩
abbrev vwCl : List vw_C := [(RX0, TX0, 3), (RX1, TX1, 9), (RX2, TX2, 13), (RX3, TX3, 7), (RX4, TX4, 3), (RX5, TX5, 3), (RX6, TX6, 8), (RX7, TX7, 21)]
theorem goodIn_sub {big ws : List Cond} (hm : ∀ w ∈ ws, w ∈ big) (h : ws.all goodWord = true) : GoodIn big ws := fun w hw => ⟨hm w hw, good_of_word (List.all_eq_true.mp h w hw)⟩
/-- the two links across the nest -/
def nwM : Cond := Cond.methodLinkNest "TextMorph$Buffer" (28 : Nat) ({ cls := "TextMorph", name := "isLetter", desc := "(I)Z" } : MethodName) "TextMorph"
def nwF : Cond := Cond.fieldLinkNest "TextMorph$State" (25 : Nat) "TextMorph" "VALUE_AT_FIRST" "[I" "TextMorph"
theorem nwM_in : nwM ∈ lw_tbl := List.mem_append_right _ (List.mem_of_getElem? (i := 399) (by decide +kernel))
theorem nwF_in : nwF ∈ lw_tbl := List.mem_append_right _ (List.mem_of_getElem? (i := 61) (by decide +kernel))
def NF (s : State) : Prop := va_Nw nwM s ∧ va_Nw nwF s
theorem NF.same {u U : State} (h : u.vm = U.vm) (z : NF u) : NF U := ⟨va_Nw.same rfl h z.1, va_Nw.same rfl h z.2⟩
theorem NF.warm {s U : State} (hW : s.WarmedH U.vm) (z : NF s) : NF U := ⟨va_Nw.warmM hW z.1, va_Nw.warmF hW z.2⟩
end
section
/-! THE ABSTRACT MACHINE: values are mathematical ints, the heap is a tuple of functions; one row an instruction -/
abbrev AV : Type := Int ⊕ (Option Nat ⊕ (Int64 ⊕ UInt64))
abbrev vI (i : Int) : AV := .inl i
abbrev vR (a : Nat) : AV := .inr (.inl (some a))
abbrev vN : AV := .inr (.inl none)
abbrev vQ (r : Option Nat) : AV := .inr (.inl r)
abbrev vL (x : Int64) : AV := .inr (.inr (.inl x))
abbrev vD (x : UInt64) : AV := .inr (.inr (.inr x))
def ab (v : Value) : Option AV := match v with
  | .int x => some (vI x.toInt)
  | .ref a => some (vR a)
  | .null => some vN
  | .long x => some (vL x)
  | .double b => some (vD b)
  | _ => none
def acat (v : AV) : Nat := match v with
  | .inr (.inr _) => 2
  | _ => 1
theorem ab_int {r : Value} {i : Int} (h : ab r = some (vI i)) : ∃ x : Int32, r = .int x ∧ x.toInt = i := by
  cases r <;> simp [ab, vI, vR, vN, vL, vD] at h
  exact ⟨_, rfl, h⟩
theorem ab_ref {r : Value} {a : Nat} (h : ab r = some (vR a)) : r = .ref a := by
  cases r <;> simp [ab, vI, vR, vN, vL, vD] at h
  rw [h]
theorem ab_null {r : Value} (h : ab r = some vN) : r = .null := by
  cases r <;> simp [ab, vI, vR, vN, vL, vD] at h
  rfl
theorem ab_q {r : Value} {o : Option Nat} (h : ab r = some (vQ o)) : r = va_rf o := by
  cases o with
  | none => exact ab_null h
  | some a => exact ab_ref h
theorem ab_long {r : Value} {x : Int64} (h : ab r = some (vL x)) : r = .long x := by
  cases r <;> simp [ab, vI, vR, vN, vL, vD] at h
  rw [h]
theorem ab_dbl {r : Value} {x : UInt64} (h : ab r = some (vD x)) : r = .double x := by
  cases r <;> simp [ab, vI, vR, vN, vL, vD] at h
  rw [h]
theorem ab_cat {r : Value} {v : AV} (h : ab r = some v) : r.category = acat v := by
  cases r <;> simp [ab] at h <;> subst h <;> rfl
theorem ab_rf (o : Option Nat) : ab (va_rf o) = some (vQ o) := by cases o <;> rfl
/-- the abstract heap: (first address that may be written, size), kinds, int fields, references, longs, int arrays, reference arrays, long arrays -/
abbrev AH : Type := (Nat × Nat) × (Nat → Nat × Nat) × (Nat → Nat → Int) × (Nat → Nat → Option Nat) × (Nat → Nat → Int64) × (Nat → Int → Int) × (Nat → Int → Option Nat) × (Nat → Int → Int64)
def hlo (h : AH) : Nat := h.1.1
def hn (h : AH) : Nat := h.1.2
def hkd (h : AH) : Nat → Nat × Nat := h.2.1
def hfI (h : AH) : Nat → Nat → Int := h.2.2.1
def hfR (h : AH) : Nat → Nat → Option Nat := h.2.2.2.1
def hfL (h : AH) : Nat → Nat → Int64 := h.2.2.2.2.1
def haI (h : AH) : Nat → Int → Int := h.2.2.2.2.2.1
def haR (h : AH) : Nat → Int → Option Nat := h.2.2.2.2.2.2.1
def haL (h : AH) : Nat → Int → Int64 := h.2.2.2.2.2.2.2
def u1 {α : Type} (f : Int → α) (i : Int) (v : α) : Int → α := fun j => if j = i then v else f j
def u0 {α : Type} (f : Nat → α) (a : Nat) (v : α) : Nat → α := fun q => if q = a then v else f q
def sfI (h : AH) (a k : Nat) (v : Int) : AH := (h.1, hkd h, u0 (hfI h) a (u0 (hfI h a) k v), hfR h, hfL h, haI h, haR h, haL h)
def sfR (h : AH) (a k : Nat) (v : Option Nat) : AH := (h.1, hkd h, hfI h, u0 (hfR h) a (u0 (hfR h a) k v), hfL h, haI h, haR h, haL h)
def sfL (h : AH) (a k : Nat) (v : Int64) : AH := (h.1, hkd h, hfI h, hfR h, u0 (hfL h) a (u0 (hfL h a) k v), haI h, haR h, haL h)
def saI (h : AH) (a : Nat) (f : Int → Int) : AH := (h.1, hkd h, hfI h, hfR h, hfL h, u0 (haI h) a f, haR h, haL h)
def saR (h : AH) (a : Nat) (f : Int → Option Nat) : AH := (h.1, hkd h, hfI h, hfR h, hfL h, haI h, u0 (haR h) a f, haL h)
def saL (h : AH) (a : Nat) (f : Int → Int64) : AH := (h.1, hkd h, hfI h, hfR h, hfL h, haI h, haR h, u0 (haL h) a f)
def nOb (h : AH) (c : Nat) : AH := ((hlo h, hn h + 1), u0 (hkd h) (hn h) (c + 4, 0), u0 (hfI h) (hn h) (fun _ => 0), u0 (hfR h) (hn h) (fun _ => none), u0 (hfL h) (hn h) (fun _ => 0), haI h, haR h, haL h)
def nAI (h : AH) (n : Nat) : AH := ((hlo h, hn h + 1), u0 (hkd h) (hn h) (1, n), hfI h, hfR h, hfL h, u0 (haI h) (hn h) (fun _ => 0), haR h, haL h)
def nAL (h : AH) (n : Nat) : AH := ((hlo h, hn h + 1), u0 (hkd h) (hn h) (2, n), hfI h, hfR h, hfL h, haI h, haR h, u0 (haL h) (hn h) (fun _ => 0))
def nAR (h : AH) (n : Nat) : AH := ((hlo h, hn h + 1), u0 (hkd h) (hn h) (3, n), hfI h, hfR h, hfL h, haI h, u0 (haR h) (hn h) (fun _ => none), haL h)
/-- garbage: k cells that nobody knows -/
def nGb (h : AH) (k : Nat) : AH := ((hlo h, hn h + k), hkd h, hfI h, hfR h, hfL h, haI h, haR h, haL h)
def inR (z : Int) : Prop := -2147483648 ≤ z ∧ z ≤ 2147483647
def vwTy (c : Nat) : Nat → FieldType := match c with
  | 0 => tyX0
  | 1 => tyX1
  | 2 => tyX2
  | 3 => tyX3
  | 4 => tyX4
  | 5 => tyX5
  | 6 => tyX6
  | _ => tyX7
def fvr (h : AH) (q c k : Nat) (v : Value) : Prop := match vwTy c k with
  | .int => ∃ x : Int32, v = .int x ∧ x.toInt = hfI h q k
  | .boolean => ∃ x : Int32, v = .int x ∧ x.toInt = hfI h q k
  | .long => v = .long (hfL h q k)
  | _ => v = va_rf (hfR h q k)
def RC (s : State) (D : va_G) (h : AH) (H : Heap) (q : Nat) : Prop := match hkd h q with
  | (0, _) => True
  | (1, n) => ∃ cell : Cell, H[q]? = some cell ∧ s.isArrayOf cell .int ∧ cell.vm ≠ .unknown ∧ cell.slots.size = n ∧ n < 2147483648 ∧ ∀ j : Nat, j < n → ∃ x : Int32, cell.slots[j]? = some (.int x) ∧ x.toInt = haI h q j
  | (2, n) => ∃ cell : Cell, H[q]? = some cell ∧ s.isArrayOf cell .long ∧ cell.vm ≠ .unknown ∧ cell.slots.size = n ∧ n < 2147483648 ∧ ∀ j : Nat, j < n → cell.slots[j]? = some (.long (haL h q j))
  | (3, n) => ∃ (cA : ClassId) (f : Nat → Option Nat), H[q]? = some (arrV cA n (fun j => va_rf (f j))) ∧ ArrOfT s cA (.object RX4) ∧ va_RA s cA (.object RX4) ∧ n < 2147483648 ∧ ∀ j : Nat, j < n → f j = haR h q j
  | (c + 4, _) => ∃ (r : vw_C) (V : Nat → Value), vwCl[c]? = some r ∧ t_OB q (D.1 c) r.2.2 (D.2 c) H V ∧ ∀ k, k < r.2.2 → fvr h q c k (V k)
def Rel (s : State) (D : va_G) (H0 : Heap) (h : AH) (H : Heap) : Prop := hlo h = H0.size ∧ hn h = H.size ∧ H0.size ≤ H.size ∧ (∀ q : Nat, q < H0.size → H[q]? = H0[q]?) ∧ ∀ q, RC s D h H q
def agr (h h' : AH) (q : Nat) : Prop := hkd h' q = hkd h q ∧ hfI h' q = hfI h q ∧ hfR h' q = hfR h q ∧ hfL h' q = hfL h q ∧ haI h' q = haI h q ∧ haR h' q = haR h q ∧ haL h' q = haL h q
theorem RC.congr {s : State} {D : va_G} {h h' : AH} {H H' : Heap} {q : Nat} (e : agr h h' q) (eH : H'[q]? = H[q]?) (r : RC s D h H q) : RC s D h' H' q := by
  obtain ⟨e1, e2, e3, e4, e5, e6, e7⟩ := e
  unfold RC fvr t_OB at r ⊢
  rw [e1]
  simp only [e2, e3, e4, e5, e6, e7, eH]
  exact r
theorem RC.moved {s u : State} {D : va_G} {h : AH} {H : Heap} {q : Nat} (hvm : s.vm.Alike u.vm) (r : RC s D h H q) : RC u D h H q := by
  unfold RC at r ⊢
  split at r
  · trivial
  · obtain ⟨cell, h1, h2, h3⟩ := r
    exact ⟨cell, h1, State.isArrayOf_alike hvm h2, h3⟩
  · obtain ⟨cell, h1, h2, h3⟩ := r
    exact ⟨cell, h1, State.isArrayOf_alike hvm h2, h3⟩
  · obtain ⟨cA, f, h1, h2, h3, h4⟩ := r
    exact ⟨cA, f, h1, arrOfT_moved hvm h2, h3.moved hvm, h4⟩
  · exact r
theorem Rel.moved {s u : State} {D : va_G} {H0 : Heap} {h : AH} {H : Heap} (hvm : s.vm.Alike u.vm) (r : Rel s D H0 h H) : Rel u D H0 h H := ⟨r.1, r.2.1, r.2.2.1, r.2.2.2.1, fun q => (r.2.2.2.2 q).moved hvm⟩
theorem Rel.upd {s : State} {D : va_G} {H0 : Heap} {h h' : AH} {H H' : Heap} {a : Nat} (r : Rel s D H0 h H) (z : H'.size = H.size) (oq : ∀ q, q ≠ a → H'[q]? = H[q]?) (ha : hlo h ≤ a) (e1 : h'.1 = h.1) (e : ∀ q, q ≠ a → agr h h' q) (ra : RC s D h' H' a) : Rel s D H0 h' H' := by
  obtain ⟨r1, r2, r3, r4, r5⟩ := r
  refine ⟨by unfold hlo at *; rw [e1]; exact r1, by unfold hn at *; rw [e1, z]; exact r2, by rw [z]; exact r3, fun q hq => ?_, fun q => ?_⟩
  · rw [oq q (by rw [r1] at ha; omega)]
    exact r4 q hq
  · by_cases hq : q = a
    · subst hq; exact ra
    · exact (r5 q).congr (e q hq) (oq q hq)
theorem Rel.new {s : State} {D : va_G} {H0 : Heap} {h h' : AH} {H H' : Heap} (r : Rel s D H0 h H) (z : H'.size = H.size + 1) (oq : ∀ q, q < H.size → H'[q]? = H[q]?) (e1 : h'.1 = (hlo h, hn h + 1)) (e : ∀ q, q ≠ hn h → agr h h' q) (ra : RC s D h' H' (hn h)) : Rel s D H0 h' H' := by
  obtain ⟨r1, r2, r3, r4, r5⟩ := r
  refine ⟨by unfold hlo at *; rw [e1]; exact r1, by rw [z, ← r2]; show h'.1.2 = _; rw [e1], by rw [z]; omega, fun q hq => ?_, fun q => ?_⟩
  · rw [oq q (by omega)]
    exact r4 q hq
  · by_cases hq : q = hn h
    · subst hq; exact ra
    · by_cases hl : q < H.size
      · exact (r5 q).congr (e q hq) (oq q hl)
      · have e9 : hkd h' q = hkd h q := (e q hq).1
        have r9 := r5 q
        have hnone : H[q]? = none := by simp; omega
        unfold RC at r9 ⊢
        rw [e9]
        split at r9
        · trivial
        · obtain ⟨cell, h1, -⟩ := r9; rw [hnone] at h1; cases h1
        · obtain ⟨cell, h1, -⟩ := r9; rw [hnone] at h1; cases h1
        · obtain ⟨cA, f, h1, -⟩ := r9; rw [hnone] at h1; cases h1
        · obtain ⟨r, V, -, ⟨cell, h1, -⟩, -⟩ := r9; rw [hnone] at h1; cases h1
/-- locals, stack -/
def envOf : Nat → List AV → Nat → Option AV
  | _, [] => fun _ => none
  | k, v :: vs => fun j => if j = k then some v else envOf (k + acat v) vs j
def es (env : Nat → Option AV) (i : Nat) (v : AV) : Nat → Option AV := fun j => if j = i then some v else if j + 1 = i ∧ (env j).elim 0 acat = 2 then none else if j = i + 1 ∧ acat v = 2 then none else env j
def LR (n : Nat) (env : Nat → Option AV) (ls : Array Slot) : Prop := lv_wf ls ∧ ls.size = n ∧ ∀ (i : Nat) (v : AV), env i = some v → ∃ r : Value, ls[i]? = some (.val r) ∧ ab r = some v
def SR (st : List AV) (rs : List Value) : Prop := rs.map ab = st.map some
theorem SR.nil : SR [] [] := rfl
theorem SR.cons {v : AV} {r : Value} {st : List AV} {rs : List Value} (h : ab r = some v) (hs : SR st rs) : SR (v :: st) (r :: rs) := by
  unfold SR at *; simp [h, hs]
theorem SR.pop {v : AV} {st : List AV} {rs : List Value} (h : SR (v :: st) rs) : ∃ (r : Value) (rs' : List Value), rs = r :: rs' ∧ ab r = some v ∧ SR st rs' := by
  unfold SR at *
  cases rs with
  | nil => simp at h
  | cons r rs => simp at h; exact ⟨r, rs, rfl, h.1, h.2⟩
theorem SR.empty {rs : List Value} (h : SR [] rs) : rs = [] := by
  unfold SR at h; simpa using h
theorem SR.int {i : Int} {st : List AV} {rs : List Value} (h : SR (vI i :: st) rs) : ∃ (x : Int32) (rs' : List Value), rs = .int x :: rs' ∧ x.toInt = i ∧ SR st rs' := by
  obtain ⟨r, rs', e, e2, h2⟩ := h.pop
  obtain ⟨x, rfl, e3⟩ := ab_int e2
  exact ⟨x, rs', e, e3, h2⟩
theorem SR.ref {a : Nat} {st : List AV} {rs : List Value} (h : SR (vR a :: st) rs) : ∃ (rs' : List Value), rs = .ref a :: rs' ∧ SR st rs' := by
  obtain ⟨r, rs', e, e2, h2⟩ := h.pop
  rw [ab_ref e2] at e
  exact ⟨rs', e, h2⟩
theorem SR.long {a : Int64} {st : List AV} {rs : List Value} (h : SR (vL a :: st) rs) : ∃ (rs' : List Value), rs = .long a :: rs' ∧ SR st rs' := by
  obtain ⟨r, rs', e, e2, h2⟩ := h.pop
  rw [ab_long e2] at e
  exact ⟨rs', e, h2⟩
theorem SR.dbl {a : UInt64} {st : List AV} {rs : List Value} (h : SR (vD a :: st) rs) : ∃ (rs' : List Value), rs = .double a :: rs' ∧ SR st rs' := by
  obtain ⟨r, rs', e, e2, h2⟩ := h.pop
  rw [ab_dbl e2] at e
  exact ⟨rs', e, h2⟩
theorem SR.sum {st : List AV} {rs : List Value} (h : SR st rs) : (rs.map fun v => v.category).sum = (st.map acat).sum := by
  induction st generalizing rs with
  | nil => rw [h.empty]; rfl
  | cons v st ih =>
    obtain ⟨r, rs', rfl, e, h2⟩ := h.pop
    simp [ab_cat e, ih h2]
theorem SR.split {as st : List AV} {rs : List Value} (h : SR (as ++ st) rs) : ∃ As rs' : List Value, rs = As ++ rs' ∧ SR as As ∧ SR st rs' := by
  induction as generalizing rs with
  | nil => exact ⟨[], rs, rfl, SR.nil, h⟩
  | cons v as ih =>
    obtain ⟨r, rs', rfl, e, h2⟩ := h.pop
    obtain ⟨As, rs2, rfl, e2, h3⟩ := ih h2
    exact ⟨r :: As, rs2, rfl, e2.cons e, h3⟩
theorem SR.rev {as : List AV} {As : List Value} (h : SR as.reverse As) : SR as As.reverse := by
  unfold SR at *
  rw [List.map_reverse, h, List.map_reverse, List.reverse_reverse]
theorem SR.len {as : List AV} {As : List Value} (h : SR as As) : As.length = as.length := by
  unfold SR at h
  have := congrArg List.length h
  simpa using this
/-- the tables' words that a call may be paid with -/
def xTb : List Cond := lw_tbl.filter goodWord
theorem xTb_in {w : Cond} (h : w ∈ lw_tbl) (g : goodWord w = true) : w ∈ xTb := List.mem_filter.mpr ⟨h, g⟩
theorem xTb_of : ∀ w ∈ xTb, w ∈ lw_tbl := fun _ h => (List.mem_filter.mp h).1
end
section
/-! ROWS OF THE ABSTRACT MACHINE -/
abbrev GG : Type := va_G × Heap × (Nat → Nat)
def ZF (s : State) (H0 : Heap) (z : Nat → Nat) : Prop := va_Z "TextMorph" "LEAST_VALUE" "[I" (.ref (z 0)) (fun q => H0.size ≤ q) s H0 ∧ va_Z "TextMorph" "MOST_VALUE" "[I" (.ref (z 1)) (fun q => H0.size ≤ q) s H0 ∧ va_Z "TextMorph" "VALUE_AT_FIRST" "[I" (.ref (z 2)) (fun q => H0.size ≤ q) s H0
theorem ZF.moved {s u : State} {H0 : Heap} {z : Nat → Nat} (hvm : s.vm.Alike u.vm) (h : ZF s H0 z) : ZF u H0 z := ⟨h.1.moved hvm, h.2.1.moved hvm, h.2.2.moved hvm⟩
/-- what holds of a frame all along -/
def CF (G : GG) (p : Program) (s : State) (m : MethodId) (args : Array Value) (meth : Method) (c : Code) (cc : ByteArray) (own : String) : Prop :=
  p.tables.exec = Jvm.exec ∧ c.code = cc ∧ s.vm.findClass own = some m.cls ∧ (∀ w ∈ xTb, w.before args s = true) ∧ meth.locks = false ∧ va_K G.1 vwCl [] s ∧ ZF s G.2.1 G.2.2 ∧ NF s
def AW (G : GG) (p : Program) (l : Launch) (e : Env) (R : Room) (s : State) (m : MethodId) (args : Array Value) (below : List Frame) (meth : Method) (c : Code) (bc bs : Nat) (Qf : State → Prop) (pc : Nat) (env : Nat → Option AV) (st : List AV) (h : AH) : Prop :=
  ∀ (ls : Array Slot) (rs : List Value) (H : Heap) (locs : List Loc), LR c.maxLocals env ls → SR st rs → Rel s G.1 G.2.1 h H → (∀ q ∈ locs, G.2.1.size ≤ q.base) → W p l e R s m args below meth c H locs bc bs Qf (F0 m pc ls rs)
theorem inR_add {x y : Int32} (h : inR (x.toInt + y.toInt)) : (x + y).toInt = x.toInt + y.toInt := by
  unfold inR at h; rw [Int32.toInt_add, Int.bmod_def]; split <;> omega
theorem inR_sub {x y : Int32} (h : inR (x.toInt - y.toInt)) : (x - y).toInt = x.toInt - y.toInt := by
  unfold inR at h; rw [Int32.toInt_sub, Int.bmod_def]; split <;> omega
theorem inR_mul {x y : Int32} (h : inR (x.toInt * y.toInt)) : (x * y).toInt = x.toInt * y.toInt := by
  unfold inR at h; rw [Int32.toInt_mul, Int.bmod_def]
  generalize x.toInt * y.toInt = z at h ⊢
  split <;> omega
theorem inR_neg {x : Int32} (h : inR (-x.toInt)) : (-x).toInt = -x.toInt := by
  unfold inR at h; rw [Int32.toInt_neg, Int.bmod_def]; split <;> omega
theorem inR_divP {x y : Int32} (hx : 0 ≤ x.toInt) (hy : 0 < y.toInt) : (x / y).toInt = x.toInt / y.toInt := by
  rw [Int32.toInt_div_of_ne_right _ _ (by intro h; rw [h] at hy; revert hy; decide), Int.tdiv_eq_ediv_of_nonneg hx]
theorem inR_remP {x y : Int32} (hx : 0 ≤ x.toInt) (_hy : 0 < y.toInt) : (x - x / y * y).toInt = x.toInt % y.toInt := by
  rw [rem_toInt, Int.tmod_eq_emod_of_nonneg hx]
theorem ofInt_toInt {n : Int} (h : inR n) : (Int32.ofInt n).toInt = n := by
  unfold inR at h; exact Int32.toInt_ofInt_of_le (by omega) (by omega)
theorem toInt_0 {x : Int32} : x = 0 ↔ x.toInt = 0 := by
  rw [← Int32.toInt_inj]; simp
theorem toInt_eq {x y : Int32} : x = y ↔ x.toInt = y.toInt := Int32.toInt_inj.symm
theorem toInt_lt0 {x : Int32} : x < 0 ↔ x.toInt < 0 := by
  rw [Int32.lt_iff_toInt_lt]; simp
theorem toInt_le0 {x : Int32} : x ≤ 0 ↔ x.toInt ≤ 0 := by
  rw [Int32.le_iff_toInt_le]; simp
theorem toInt_gt0 {x : Int32} : 0 < x ↔ 0 < x.toInt := by
  rw [Int32.lt_iff_toInt_lt]; simp
theorem toInt_ge0 {x : Int32} : 0 ≤ x ↔ 0 ≤ x.toInt := by
  rw [Int32.le_iff_toInt_le]; simp
theorem toInt_lt {x y : Int32} : x < y ↔ x.toInt < y.toInt := Int32.lt_iff_toInt_lt
theorem toInt_le {x y : Int32} : x ≤ y ↔ x.toInt ≤ y.toInt := Int32.le_iff_toInt_le
theorem inR_toInt (x : Int32) : inR x.toInt := by
  have h1 := x.toInt_lt
  have h2 := x.le_toInt
  unfold inR; omega
theorem xclamp {x : Int32} {n : Nat} (h0 : 0 ≤ x.toInt) (h1 : x.toInt < (n : Int)) : ¬ (x < 0 ∨ n ≤ x.toNatClampNeg) ∧ x.toNatClampNeg < n ∧ ((x.toNatClampNeg : Nat) : Int) = x.toInt := by
  have e : ((x.toNatClampNeg : Nat) : Int) = x.toInt := by
    show ((x.toInt.toNat : Nat) : Int) = x.toInt
    omega
  refine ⟨?_, by omega, e⟩
  rintro (h | h)
  · rw [toInt_lt0] at h; omega
  · omega
theorem LR.store1 {n : Nat} {env : Nat → Option AV} {ls : Array Slot} {i : Nat} {r : Value} {v : AV} (h : LR n env ls) (hi : i < n) (hv : ab r = some v) (hc : r.category = 1) : ∃ (lv : List (Nat × Value)), lv_has ls n lv ∧ ∀ ls', lv_has ls' n ((i, r) :: lv.filter (fun q => !(q.1 == i) && !(q.1 + 1 == i && q.2.category == 2))) → LR n (es env i v) ls' := by
  obtain ⟨w, sz, he⟩ := h
  refine ⟨(List.range n).filterMap (fun j => (env j).bind fun _ => match ls[j]? with | some (.val r) => some (j, r) | _ => none), ⟨sz, w, fun q hq => ?_⟩, fun ls' h' => ⟨h'.2.1, h'.1, fun j v' hj => ?_⟩⟩
  · obtain ⟨j, -, hj⟩ := List.mem_filterMap.mp hq
    obtain ⟨v', hv', hj⟩ := Option.bind_eq_some_iff.mp hj
    split at hj
    next r heq => cases hj; exact heq
    next => cases hj
  · unfold es at hj
    split at hj
    next hji =>
      cases hj
      subst hji
      exact ⟨r, h'.2.2 (j, r) List.mem_cons_self, hv⟩
    next hji =>
      split at hj
      · cases hj
      next hk =>
        split at hj
        · cases hj
        obtain ⟨r', e1, e2⟩ := he j v' hj
        refine ⟨r', h'.2.2 (j, r') (List.mem_cons_of_mem _ (List.mem_filter.mpr ⟨List.mem_filterMap.mpr ⟨j, List.mem_range.mpr ?_, ?_⟩, ?_⟩)), e2⟩
        · rw [← sz]; exact lv_lt e1
        · rw [hj, e1]; rfl
        · simp only [Bool.and_eq_true, Bool.not_eq_true', beq_eq_false_iff_ne, ne_eq]
          refine ⟨hji, ?_⟩
          rw [Bool.and_eq_false_iff]
          by_cases h1 : j + 1 = i
          · right
            have : ¬ acat v' = 2 := fun q => hk ⟨h1, by rw [hj]; exact q⟩
            rw [ab_cat e2]; simpa using this
          · left; simpa using h1
theorem LR.store2 {n : Nat} {env : Nat → Option AV} {ls : Array Slot} {i : Nat} {r : Value} {v : AV} (h : LR n env ls) (hi : i + 1 < n) (hv : ab r = some v) (hc : r.category = 2) : ∃ (lv : List (Nat × Value)), lv_has ls n lv ∧ ∀ ls', lv_has ls' n ((i, r) :: lv.filter (fun q => !(q.1 == i) && (!(q.1 == i + 1) && !(q.1 + 1 == i && q.2.category == 2)))) → LR n (es env i v) ls' := by
  obtain ⟨w, sz, he⟩ := h
  refine ⟨(List.range n).filterMap (fun j => (env j).bind fun _ => match ls[j]? with | some (.val r) => some (j, r) | _ => none), ⟨sz, w, fun q hq => ?_⟩, fun ls' h' => ⟨h'.2.1, h'.1, fun j v' hj => ?_⟩⟩
  · obtain ⟨j, -, hj⟩ := List.mem_filterMap.mp hq
    obtain ⟨v', hv', hj⟩ := Option.bind_eq_some_iff.mp hj
    split at hj
    next r heq => cases hj; exact heq
    next => cases hj
  · unfold es at hj
    split at hj
    next hji =>
      cases hj
      subst hji
      exact ⟨r, h'.2.2 (j, r) List.mem_cons_self, hv⟩
    next hji =>
      split at hj
      · cases hj
      next hk =>
        split at hj
        · cases hj
        next hk2 =>
        obtain ⟨r', e1, e2⟩ := he j v' hj
        refine ⟨r', h'.2.2 (j, r') (List.mem_cons_of_mem _ (List.mem_filter.mpr ⟨List.mem_filterMap.mpr ⟨j, List.mem_range.mpr ?_, ?_⟩, ?_⟩)), e2⟩
        · rw [← sz]; exact lv_lt e1
        · rw [hj, e1]; rfl
        · have hi1 : ¬ j = i + 1 := fun q => hk2 ⟨q, by rw [← ab_cat hv]; exact hc⟩
          have : (j == i) = false := by simpa using hji
          have h3 : (j == i + 1) = false := by simpa using hi1
          have h4 : (j + 1 == i && r'.category == 2) = false := by
            rw [Bool.and_eq_false_iff]
            by_cases h1 : j + 1 = i
            · right
              have : ¬ acat v' = 2 := fun q => hk ⟨h1, by rw [hj]; exact q⟩
              rw [ab_cat e2]; simpa using this
            · left; simpa using h1
          simp only [this, h3, h4]; rfl
def eSub (l : List (Nat × AV)) (env : Nat → Option AV) : Prop := match l with
  | [] => True
  | (i, v) :: r => env i = some v ∧ eSub r env
def eOf (l : List (Nat × AV)) : Nat → Option AV := match l with
  | [] => fun _ => none
  | (i, v) :: r => fun j => if j = i then some v else eOf r j
theorem eSub.of {l : List (Nat × AV)} {env : Nat → Option AV} (h : eSub l env) : ∀ i v, eOf l i = some v → env i = some v := by
  induction l with
  | nil => intro i v hi; cases hi
  | cons q l ih =>
    intro i v hi
    obtain ⟨h1, h2⟩ := h
    unfold eOf at hi
    split at hi
    next e => subst e; cases hi; exact h1
    next => exact ih h2 i v hi
section AWR
variable {G : GG} {p : Program} {l : Launch} {e : Env} {R : Room} {s : State} {m : MethodId} {args : Array Value} {below : List Frame} {meth : Method} {c : Code} {bc bs : Nat} {Qf : State → Prop} {cc : ByteArray} {own : String}
variable {pc : Nat} {env : Nat → Option AV} {st : List AV} {h : AH}
/-- fewer locals, canonical -/
theorem aw_sub (l0 : List (Nat × AV)) (hs : eSub l0 env) (kk : AW G p l e R s m args below meth c bc bs Qf pc (eOf l0) st h) : AW G p l e R s m args below meth c bc bs Qf pc env st h :=
  fun ls rs H locs hL hS hR hf => kk ls rs H locs ⟨hL.1, hL.2.1, fun i v hi => hL.2.2 i v (hs.of i v hi)⟩ hS hR hf
theorem aw_iconst (C : CF G p s m args meth c cc own) {n i : Int} (hdg : decode cc pc = .ok (.iconst n, 1)) (hv : (Int32.ofInt n).toInt = i) (kk : AW G p l e R s m args below meth c bc bs Qf (pc + 1) env (vI i :: st) h) : AW G p l e R s m args below meth c bc bs Qf pc env st h :=
  fun ls rs H locs hL hS hR hf => lv_iconst C.1 C.2.1 hdg rfl (kk ls _ H locs hL (hS.cons (by rw [← hv]; rfl)) hR hf)
theorem aw_bipush (C : CF G p s m args meth c cc own) {n i : Int} (hdg : decode cc pc = .ok (.bipush n, 2)) (hv : (Int8.ofInt n).toInt32.toInt = i) (kk : AW G p l e R s m args below meth c bc bs Qf (pc + 2) env (vI i :: st) h) : AW G p l e R s m args below meth c bc bs Qf pc env st h :=
  fun ls rs H locs hL hS hR hf => lv_bipush C.1 C.2.1 hdg rfl (kk ls _ H locs hL (hS.cons (by rw [← hv]; rfl)) hR hf)
theorem aw_sipush (C : CF G p s m args meth c cc own) {n i : Int} (hdg : decode cc pc = .ok (.sipush n, 3)) (hv : (Int16.ofInt n).toInt32.toInt = i) (kk : AW G p l e R s m args below meth c bc bs Qf (pc + 3) env (vI i :: st) h) : AW G p l e R s m args below meth c bc bs Qf pc env st h :=
  fun ls rs H locs hL hS hR hf => lv_sipush C.1 C.2.1 hdg rfl (kk ls _ H locs hL (hS.cons (by rw [← hv]; rfl)) hR hf)
theorem aw_lconst (C : CF G p s m args meth c cc own) {n : Fin 2} {x : Int64} (hdg : decode cc pc = .ok (.lconst n, 1)) (hv : Int64.ofNat (n : Nat) = x) (kk : AW G p l e R s m args below meth c bc bs Qf (pc + 1) env (vL x :: st) h) : AW G p l e R s m args below meth c bc bs Qf pc env st h :=
  fun ls rs H locs hL hS hR hf => lv_lconst C.1 C.2.1 hdg hv (kk ls _ H locs hL (hS.cons rfl) hR hf)
theorem aw_dconst0 (C : CF G p s m args meth c cc own) (hdg : decode cc pc = .ok (.dconst 0, 1)) (kk : AW G p l e R s m args below meth c bc bs Qf (pc + 1) env (vD FP.dconst0 :: st) h) : AW G p l e R s m args below meth c bc bs Qf pc env st h :=
  fun ls rs H locs hL hS hR hf => lv_dconst0 C.1 C.2.1 hdg (kk ls _ H locs hL (hS.cons rfl) hR hf)
theorem aw_dconst1 (C : CF G p s m args meth c cc own) (hdg : decode cc pc = .ok (.dconst 1, 1)) (kk : AW G p l e R s m args below meth c bc bs Qf (pc + 1) env (vD FP.dconst1 :: st) h) : AW G p l e R s m args below meth c bc bs Qf pc env st h :=
  fun ls rs H locs hL hS hR hf => lv_dconst1 C.1 C.2.1 hdg (kk ls _ H locs hL (hS.cons rfl) hR hf)
theorem aw_ldc2 (C : CF G p s m args meth c cc own) {index : Nat} {x : Int64} (hw : Cond.constantLong own index x ∈ xTb) (hdg : decode cc pc = .ok (.ldc2_w index, 3)) (kk : AW G p l e R s m args below meth c bc bs Qf (pc + 3) env (vL x :: st) h) : AW G p l e R s m args below meth c bc bs Qf pc env st h :=
  fun ls rs H locs hL hS hR hf => lv_ldc2 C.1 C.2.1 C.2.2.1 (C.2.2.2.1 _ hw) hdg (kk ls _ H locs hL (hS.cons rfl) hR hf)
theorem aw_ldc2d (C : CF G p s m args meth c cc own) {index : Nat} {x : UInt64} (hw : Cond.constantDouble own index x ∈ xTb) (hdg : decode cc pc = .ok (.ldc2_w index, 3)) (kk : AW G p l e R s m args below meth c bc bs Qf (pc + 3) env (vD x :: st) h) : AW G p l e R s m args below meth c bc bs Qf pc env st h :=
  fun ls rs H locs hL hS hR hf => lv_ldc2d C.1 C.2.1 C.2.2.1 (C.2.2.2.1 _ hw) hdg (kk ls _ H locs hL (hS.cons rfl) hR hf)
theorem aw_iload_n (C : CF G p s m args meth c cc own) {k : Fin 4} {i : Nat} {x : Int} (hdg : decode cc pc = .ok (.iload_n k, 1)) (hi : (k : Nat) = i) (hl : env i = some (vI x)) (kk : AW G p l e R s m args below meth c bc bs Qf (pc + 1) env (vI x :: st) h) : AW G p l e R s m args below meth c bc bs Qf pc env st h := by
  intro ls rs H locs hL hS hR hf
  obtain ⟨r, h1, h2⟩ := hL.2.2 _ _ hl
  obtain ⟨y, rfl, h3⟩ := ab_int h2
  exact lv_iload_n C.1 C.2.1 hdg hi h1 (kk ls _ H locs hL (hS.cons h2) hR hf)
theorem aw_iload (C : CF G p s m args meth c cc own) {i : Nat} {x : Int} (hdg : decode cc pc = .ok (.iload i, 2)) (hl : env i = some (vI x)) (kk : AW G p l e R s m args below meth c bc bs Qf (pc + 2) env (vI x :: st) h) : AW G p l e R s m args below meth c bc bs Qf pc env st h := by
  intro ls rs H locs hL hS hR hf
  obtain ⟨r, h1, h2⟩ := hL.2.2 _ _ hl
  obtain ⟨y, rfl, h3⟩ := ab_int h2
  exact lv_iload C.1 C.2.1 hdg h1 (kk ls _ H locs hL (hS.cons h2) hR hf)
theorem aw_lload_n (C : CF G p s m args meth c cc own) {k : Fin 4} {i : Nat} {x : Int64} (hdg : decode cc pc = .ok (.lload_n k, 1)) (hi : (k : Nat) = i) (hl : env i = some (vL x)) (kk : AW G p l e R s m args below meth c bc bs Qf (pc + 1) env (vL x :: st) h) : AW G p l e R s m args below meth c bc bs Qf pc env st h := by
  intro ls rs H locs hL hS hR hf
  obtain ⟨r, h1, h2⟩ := hL.2.2 _ _ hl
  have h3 := ab_long h2
  subst h3
  exact lv_lload_n C.1 C.2.1 hdg hi h1 (kk ls _ H locs hL (hS.cons h2) hR hf)
theorem aw_lload (C : CF G p s m args meth c cc own) {i : Nat} {x : Int64} (hdg : decode cc pc = .ok (.lload i, 2)) (hl : env i = some (vL x)) (kk : AW G p l e R s m args below meth c bc bs Qf (pc + 2) env (vL x :: st) h) : AW G p l e R s m args below meth c bc bs Qf pc env st h := by
  intro ls rs H locs hL hS hR hf
  obtain ⟨r, h1, h2⟩ := hL.2.2 _ _ hl
  have h3 := ab_long h2
  subst h3
  exact lv_lload C.1 C.2.1 hdg h1 (kk ls _ H locs hL (hS.cons h2) hR hf)
theorem aw_dload_n (C : CF G p s m args meth c cc own) {k : Fin 4} {i : Nat} {x : UInt64} (hdg : decode cc pc = .ok (.dload_n k, 1)) (hi : (k : Nat) = i) (hl : env i = some (vD x)) (kk : AW G p l e R s m args below meth c bc bs Qf (pc + 1) env (vD x :: st) h) : AW G p l e R s m args below meth c bc bs Qf pc env st h := by
  intro ls rs H locs hL hS hR hf
  obtain ⟨r, h1, h2⟩ := hL.2.2 _ _ hl
  have h3 := ab_dbl h2
  subst h3
  exact lv_dload_n C.1 C.2.1 hdg hi h1 (kk ls _ H locs hL (hS.cons h2) hR hf)
theorem aw_dload (C : CF G p s m args meth c cc own) {i : Nat} {x : UInt64} (hdg : decode cc pc = .ok (.dload i, 2)) (hl : env i = some (vD x)) (kk : AW G p l e R s m args below meth c bc bs Qf (pc + 2) env (vD x :: st) h) : AW G p l e R s m args below meth c bc bs Qf pc env st h := by
  intro ls rs H locs hL hS hR hf
  obtain ⟨r, h1, h2⟩ := hL.2.2 _ _ hl
  have h3 := ab_dbl h2
  subst h3
  exact lv_dload C.1 C.2.1 hdg h1 (kk ls _ H locs hL (hS.cons h2) hR hf)
theorem aw_aload_n (C : CF G p s m args meth c cc own) {k : Fin 4} {i : Nat} {x : Nat} (hdg : decode cc pc = .ok (.aload_n k, 1)) (hi : (k : Nat) = i) (hl : env i = some (vR x)) (kk : AW G p l e R s m args below meth c bc bs Qf (pc + 1) env (vR x :: st) h) : AW G p l e R s m args below meth c bc bs Qf pc env st h := by
  intro ls rs H locs hL hS hR hf
  obtain ⟨r, h1, h2⟩ := hL.2.2 _ _ hl
  have h3 := ab_ref h2
  subst h3
  exact lv_aload_n C.1 C.2.1 hdg hi h1 (kk ls _ H locs hL (hS.cons h2) hR hf)
theorem aw_aload (C : CF G p s m args meth c cc own) {i : Nat} {x : Nat} (hdg : decode cc pc = .ok (.aload i, 2)) (hl : env i = some (vR x)) (kk : AW G p l e R s m args below meth c bc bs Qf (pc + 2) env (vR x :: st) h) : AW G p l e R s m args below meth c bc bs Qf pc env st h := by
  intro ls rs H locs hL hS hR hf
  obtain ⟨r, h1, h2⟩ := hL.2.2 _ _ hl
  have h3 := ab_ref h2
  subst h3
  exact lv_aload C.1 C.2.1 hdg h1 (kk ls _ H locs hL (hS.cons h2) hR hf)
theorem aw_istore_n (C : CF G p s m args meth c cc own) {k : Fin 4} {i : Nat} {x : Int} (hdg : decode cc pc = .ok (.istore_n k, 1)) (hi : (k : Nat) = i) (hn : i < c.maxLocals) (kk : AW G p l e R s m args below meth c bc bs Qf (pc + 1) (es env i (vI x)) st h) : AW G p l e R s m args below meth c bc bs Qf pc env (vI x :: st) h := by
  intro ls rs H locs hL hS hR hf
  obtain ⟨y, rs', rfl, e1, hS'⟩ := hS.int
  obtain ⟨lv, h1, h2⟩ := hL.store1 (i := i) (r := .int y) (v := vI x) hn (by rw [← e1]; rfl) rfl
  exact lv_istore_n C.1 C.2.1 hdg hi h1 hn rfl (fun ls' h' => kk ls' _ H locs (h2 ls' h') hS' hR hf)
theorem aw_istore (C : CF G p s m args meth c cc own) {i : Nat} {x : Int} (hdg : decode cc pc = .ok (.istore i, 2)) (hn : i < c.maxLocals) (kk : AW G p l e R s m args below meth c bc bs Qf (pc + 2) (es env i (vI x)) st h) : AW G p l e R s m args below meth c bc bs Qf pc env (vI x :: st) h := by
  intro ls rs H locs hL hS hR hf
  obtain ⟨y, rs', rfl, e1, hS'⟩ := hS.int
  obtain ⟨lv, h1, h2⟩ := hL.store1 (i := i) (r := .int y) (v := vI x) hn (by rw [← e1]; rfl) rfl
  exact lv_istore C.1 C.2.1 hdg h1 hn rfl (fun ls' h' => kk ls' _ H locs (h2 ls' h') hS' hR hf)
theorem aw_astore_n (C : CF G p s m args meth c cc own) {k : Fin 4} {i : Nat} {x : Nat} (hdg : decode cc pc = .ok (.astore_n k, 1)) (hi : (k : Nat) = i) (hn : i < c.maxLocals) (kk : AW G p l e R s m args below meth c bc bs Qf (pc + 1) (es env i (vR x)) st h) : AW G p l e R s m args below meth c bc bs Qf pc env (vR x :: st) h := by
  intro ls rs H locs hL hS hR hf
  obtain ⟨rs', rfl, hS'⟩ := hS.ref
  obtain ⟨lv, h1, h2⟩ := hL.store1 (i := i) (r := .ref x) (v := vR x) hn rfl rfl
  exact lv_astore_n C.1 C.2.1 hdg hi h1 hn rfl (fun ls' h' => kk ls' _ H locs (h2 ls' h') hS' hR hf)
theorem aw_astore (C : CF G p s m args meth c cc own) {i : Nat} {x : Nat} (hdg : decode cc pc = .ok (.astore i, 2)) (hn : i < c.maxLocals) (kk : AW G p l e R s m args below meth c bc bs Qf (pc + 2) (es env i (vR x)) st h) : AW G p l e R s m args below meth c bc bs Qf pc env (vR x :: st) h := by
  intro ls rs H locs hL hS hR hf
  obtain ⟨rs', rfl, hS'⟩ := hS.ref
  obtain ⟨lv, h1, h2⟩ := hL.store1 (i := i) (r := .ref x) (v := vR x) hn rfl rfl
  exact lv_astore C.1 C.2.1 hdg h1 hn rfl (fun ls' h' => kk ls' _ H locs (h2 ls' h') hS' hR hf)
theorem aw_lstore_n (C : CF G p s m args meth c cc own) {k : Fin 4} {i : Nat} {x : Int64} (hdg : decode cc pc = .ok (.lstore_n k, 1)) (hi : (k : Nat) = i) (hn : i + 1 < c.maxLocals) (kk : AW G p l e R s m args below meth c bc bs Qf (pc + 1) (es env i (vL x)) st h) : AW G p l e R s m args below meth c bc bs Qf pc env (vL x :: st) h := by
  intro ls rs H locs hL hS hR hf
  obtain ⟨rs', rfl, hS'⟩ := hS.long
  obtain ⟨lv, h1, h2⟩ := hL.store2 (i := i) (r := .long x) (v := vL x) hn rfl rfl
  exact lv_lstore_n C.1 C.2.1 hdg hi h1 hn rfl (fun ls' h' => kk ls' _ H locs (h2 ls' h') hS' hR hf)
theorem aw_lstore (C : CF G p s m args meth c cc own) {i : Nat} {x : Int64} (hdg : decode cc pc = .ok (.lstore i, 2)) (hn : i + 1 < c.maxLocals) (kk : AW G p l e R s m args below meth c bc bs Qf (pc + 2) (es env i (vL x)) st h) : AW G p l e R s m args below meth c bc bs Qf pc env (vL x :: st) h := by
  intro ls rs H locs hL hS hR hf
  obtain ⟨rs', rfl, hS'⟩ := hS.long
  obtain ⟨lv, h1, h2⟩ := hL.store2 (i := i) (r := .long x) (v := vL x) hn rfl rfl
  exact lv_lstore C.1 C.2.1 hdg h1 hn rfl (fun ls' h' => kk ls' _ H locs (h2 ls' h') hS' hR hf)
theorem aw_dstore_n (C : CF G p s m args meth c cc own) {k : Fin 4} {i : Nat} {x : UInt64} (hdg : decode cc pc = .ok (.dstore_n k, 1)) (hi : (k : Nat) = i) (hn : i + 1 < c.maxLocals) (kk : AW G p l e R s m args below meth c bc bs Qf (pc + 1) (es env i (vD x)) st h) : AW G p l e R s m args below meth c bc bs Qf pc env (vD x :: st) h := by
  intro ls rs H locs hL hS hR hf
  obtain ⟨rs', rfl, hS'⟩ := hS.dbl
  obtain ⟨lv, h1, h2⟩ := hL.store2 (i := i) (r := .double x) (v := vD x) hn rfl rfl
  exact lv_dstore_n C.1 C.2.1 hdg hi h1 hn rfl (fun ls' h' => kk ls' _ H locs (h2 ls' h') hS' hR hf)
theorem aw_dstore (C : CF G p s m args meth c cc own) {i : Nat} {x : UInt64} (hdg : decode cc pc = .ok (.dstore i, 2)) (hn : i + 1 < c.maxLocals) (kk : AW G p l e R s m args below meth c bc bs Qf (pc + 2) (es env i (vD x)) st h) : AW G p l e R s m args below meth c bc bs Qf pc env (vD x :: st) h := by
  intro ls rs H locs hL hS hR hf
  obtain ⟨rs', rfl, hS'⟩ := hS.dbl
  obtain ⟨lv, h1, h2⟩ := hL.store2 (i := i) (r := .double x) (v := vD x) hn rfl rfl
  exact lv_dstore C.1 C.2.1 hdg h1 hn rfl (fun ls' h' => kk ls' _ H locs (h2 ls' h') hS' hR hf)
theorem aw_iinc (C : CF G p s m args meth c cc own) {i : Nat} {n k x : Int} (hdg : decode cc pc = .ok (.iinc i n, 3)) (hk : (Int32.ofInt n).toInt = k) (hl : env i = some (vI x)) (hn : i < c.maxLocals) (hr : inR (x + k)) (kk : AW G p l e R s m args below meth c bc bs Qf (pc + 3) (es env i (vI (x + k))) st h) : AW G p l e R s m args below meth c bc bs Qf pc env st h := by
  intro ls rs H locs hL hS hR hf
  obtain ⟨r, h1, h2⟩ := hL.2.2 _ _ hl
  obtain ⟨y, rfl, h3⟩ := ab_int h2
  obtain ⟨lv, g1, g2⟩ := hL.store1 (i := i) (r := .int (y + Int32.ofInt n)) (v := vI (x + k)) hn (by rw [← h3, ← hk]; show some (vI _) = _; rw [inR_add (by rw [h3, hk]; exact hr)]) rfl
  have g1' : lv_has ls c.maxLocals ((i, .int y) :: lv) := ⟨g1.1, g1.2.1, fun q hq => by
    rcases List.mem_cons.mp hq with rfl | hq
    · exact h1
    · exact g1.2.2 q hq⟩
  refine lv_iinc C.1 C.2.1 hdg g1' (k := 0) rfl rfl hn rfl (fun ls' h' => kk ls' _ H locs (g2 ls' ?_) hS hR hf)
  rw [List.filter_cons_of_neg (by simp)] at h'
  exact h'
theorem aw_iadd (C : CF G p s m args meth c cc own) {a b : Int} (hdg : decode cc pc = .ok (.iadd, 1)) (hr : inR (a + b)) (kk : AW G p l e R s m args below meth c bc bs Qf (pc + 1) env (vI (a + b) :: st) h) : AW G p l e R s m args below meth c bc bs Qf pc env (vI b :: vI a :: st) h := by
  intro ls rs H locs hL hS hR hf
  obtain ⟨y, rs1, rfl, rfl, hS1⟩ := hS.int
  obtain ⟨x, rs2, rfl, rfl, hS2⟩ := hS1.int
  exact lv_iadd C.1 C.2.1 hdg (kk ls _ H locs hL (hS2.cons (by show some (vI _) = _; rw [inR_add hr])) hR hf)
theorem aw_isub (C : CF G p s m args meth c cc own) {a b : Int} (hdg : decode cc pc = .ok (.isub, 1)) (hr : inR (a - b)) (kk : AW G p l e R s m args below meth c bc bs Qf (pc + 1) env (vI (a - b) :: st) h) : AW G p l e R s m args below meth c bc bs Qf pc env (vI b :: vI a :: st) h := by
  intro ls rs H locs hL hS hR hf
  obtain ⟨y, rs1, rfl, rfl, hS1⟩ := hS.int
  obtain ⟨x, rs2, rfl, rfl, hS2⟩ := hS1.int
  exact lv_isub C.1 C.2.1 hdg (kk ls _ H locs hL (hS2.cons (by show some (vI _) = _; rw [inR_sub hr])) hR hf)
theorem aw_imul (C : CF G p s m args meth c cc own) {a b : Int} (hdg : decode cc pc = .ok (.imul, 1)) (hr : inR (a * b)) (kk : AW G p l e R s m args below meth c bc bs Qf (pc + 1) env (vI (a * b) :: st) h) : AW G p l e R s m args below meth c bc bs Qf pc env (vI b :: vI a :: st) h := by
  intro ls rs H locs hL hS hR hf
  obtain ⟨y, rs1, rfl, rfl, hS1⟩ := hS.int
  obtain ⟨x, rs2, rfl, rfl, hS2⟩ := hS1.int
  exact lv_imul C.1 C.2.1 hdg (kk ls _ H locs hL (hS2.cons (by show some (vI _) = _; rw [inR_mul hr])) hR hf)
theorem aw_idiv (C : CF G p s m args meth c cc own) {a b : Int} (hdg : decode cc pc = .ok (.idiv, 1)) (hr : 0 ≤ a ∧ 0 < b) (kk : AW G p l e R s m args below meth c bc bs Qf (pc + 1) env (vI (a / b) :: st) h) : AW G p l e R s m args below meth c bc bs Qf pc env (vI b :: vI a :: st) h := by
  intro ls rs H locs hL hS hR hf
  obtain ⟨y, rs1, rfl, rfl, hS1⟩ := hS.int
  obtain ⟨x, rs2, rfl, rfl, hS2⟩ := hS1.int
  exact lv_idiv C.1 C.2.1 hdg (by rw [toInt_0]; omega) (kk ls _ H locs hL (hS2.cons (by show some (vI _) = _; rw [inR_divP hr.1 hr.2])) hR hf)
theorem aw_irem (C : CF G p s m args meth c cc own) {a b : Int} (hdg : decode cc pc = .ok (.irem, 1)) (hr : 0 ≤ a ∧ 0 < b) (kk : AW G p l e R s m args below meth c bc bs Qf (pc + 1) env (vI (a % b) :: st) h) : AW G p l e R s m args below meth c bc bs Qf pc env (vI b :: vI a :: st) h := by
  intro ls rs H locs hL hS hR hf
  obtain ⟨y, rs1, rfl, rfl, hS1⟩ := hS.int
  obtain ⟨x, rs2, rfl, rfl, hS2⟩ := hS1.int
  exact lv_irem C.1 C.2.1 hdg (by rw [toInt_0]; omega) (kk ls _ H locs hL (hS2.cons (by show some (vI _) = _; rw [inR_remP hr.1 hr.2])) hR hf)
theorem aw_ineg (C : CF G p s m args meth c cc own) {a : Int} (hdg : decode cc pc = .ok (.ineg, 1)) (hr : inR (-a)) (kk : AW G p l e R s m args below meth c bc bs Qf (pc + 1) env (vI (-a) :: st) h) : AW G p l e R s m args below meth c bc bs Qf pc env (vI a :: st) h := by
  intro ls rs H locs hL hS hR hf
  obtain ⟨x, rs1, rfl, rfl, hS1⟩ := hS.int
  exact lv_ineg C.1 C.2.1 hdg (kk ls _ H locs hL (hS1.cons (by show some (vI _) = _; rw [inR_neg hr])) hR hf)
theorem and31 (x : Int32) : (x &&& 31).toInt = x.toInt % 32 := by
  have h : (x &&& 31).toBitVec = x.toBitVec &&& 31#32 := rfl
  have h2 : (x.toBitVec &&& 31#32).toNat = x.toBitVec.toNat % 32 := by
    rw [BitVec.toNat_and]
    exact Nat.and_two_pow_sub_one_eq_mod _ 5
  show (x &&& 31).toBitVec.toInt = x.toBitVec.toInt % 32
  rw [h, BitVec.toInt_eq_toNat_cond, BitVec.toInt_eq_toNat_cond, h2]
  have h3 := x.toBitVec.isLt
  split <;> split <;> omega
/-- only with the constant 31 -/
theorem aw_iand31 (C : CF G p s m args meth c cc own) {a : Int} (hdg : decode cc pc = .ok (.iand, 1)) (kk : AW G p l e R s m args below meth c bc bs Qf (pc + 1) env (vI (a % 32) :: st) h) : AW G p l e R s m args below meth c bc bs Qf pc env (vI 31 :: vI a :: st) h := by
  intro ls rs H locs hL hS hR hf
  obtain ⟨y, rs1, rfl, e1, hS1⟩ := hS.int
  obtain ⟨x, rs2, rfl, rfl, hS2⟩ := hS1.int
  have : y = 31 := by rw [toInt_eq, e1]; rfl
  subst this
  exact lv_iand C.1 C.2.1 hdg (kk ls _ H locs hL (hS2.cons (by show some (vI _) = _; rw [and31])) hR hf)
theorem aw_i2l (C : CF G p s m args meth c cc own) {a : Int} (hdg : decode cc pc = .ok (.i2l, 1)) (kk : AW G p l e R s m args below meth c bc bs Qf (pc + 1) env (vL (Int64.ofInt a) :: st) h) : AW G p l e R s m args below meth c bc bs Qf pc env (vI a :: st) h := by
  intro ls rs H locs hL hS hR hf
  obtain ⟨x, rs1, rfl, rfl, hS1⟩ := hS.int
  refine lv_i2l C.1 C.2.1 hdg rfl (kk ls _ H locs hL (hS1.cons ?_) hR hf)
  show some (vL x.toInt64) = _
  rw [show x.toInt64 = Int64.ofInt x.toInt from by rw [Int64.ofInt_int32ToInt]]
theorem aw_i2d (C : CF G p s m args meth c cc own) {a : Int} (hdg : decode cc pc = .ok (.i2d, 1)) (kk : AW G p l e R s m args below meth c bc bs Qf (pc + 1) env (vD (FP.i2d (Int32.ofInt a)) :: st) h) : AW G p l e R s m args below meth c bc bs Qf pc env (vI a :: st) h := by
  intro ls rs H locs hL hS hR hf
  obtain ⟨x, rs1, rfl, rfl, hS1⟩ := hS.int
  exact lv_i2d C.1 C.2.1 hdg (kk ls _ H locs hL (hS1.cons (by rw [Int32.ofInt_toInt]; rfl)) hR hf)
theorem aw_ladd (C : CF G p s m args meth c cc own) {a b : Int64} (hdg : decode cc pc = .ok (.ladd, 1)) (kk : AW G p l e R s m args below meth c bc bs Qf (pc + 1) env (vL (a + b) :: st) h) : AW G p l e R s m args below meth c bc bs Qf pc env (vL b :: vL a :: st) h := by
  intro ls rs H locs hL hS hR hf
  obtain ⟨rs1, rfl, hS1⟩ := hS.long
  obtain ⟨rs2, rfl, hS2⟩ := hS1.long
  exact lv_ladd C.1 C.2.1 hdg (kk ls _ H locs hL (hS2.cons rfl) hR hf)
theorem aw_lsub (C : CF G p s m args meth c cc own) {a b : Int64} (hdg : decode cc pc = .ok (.lsub, 1)) (kk : AW G p l e R s m args below meth c bc bs Qf (pc + 1) env (vL (a - b) :: st) h) : AW G p l e R s m args below meth c bc bs Qf pc env (vL b :: vL a :: st) h := by
  intro ls rs H locs hL hS hR hf
  obtain ⟨rs1, rfl, hS1⟩ := hS.long
  obtain ⟨rs2, rfl, hS2⟩ := hS1.long
  exact lv_lsub C.1 C.2.1 hdg (kk ls _ H locs hL (hS2.cons rfl) hR hf)
theorem aw_lmul (C : CF G p s m args meth c cc own) {a b : Int64} (hdg : decode cc pc = .ok (.lmul, 1)) (kk : AW G p l e R s m args below meth c bc bs Qf (pc + 1) env (vL (a * b) :: st) h) : AW G p l e R s m args below meth c bc bs Qf pc env (vL b :: vL a :: st) h := by
  intro ls rs H locs hL hS hR hf
  obtain ⟨rs1, rfl, hS1⟩ := hS.long
  obtain ⟨rs2, rfl, hS2⟩ := hS1.long
  exact lv_lmul C.1 C.2.1 hdg (kk ls _ H locs hL (hS2.cons rfl) hR hf)
theorem aw_lshl (C : CF G p s m args meth c cc own) {a : Int64} {b : Int} (hdg : decode cc pc = .ok (.lshl, 1)) (kk : AW G p l e R s m args below meth c bc bs Qf (pc + 1) env (vL (a <<< ((Int32.ofInt b).toInt64 &&& 63)) :: st) h) : AW G p l e R s m args below meth c bc bs Qf pc env (vI b :: vL a :: st) h := by
  intro ls rs H locs hL hS hR hf
  obtain ⟨x, rs1, rfl, rfl, hS1⟩ := hS.int
  obtain ⟨rs2, rfl, hS2⟩ := hS1.long
  exact lv_lshl C.1 C.2.1 hdg rfl (kk ls _ H locs hL (hS2.cons (by rw [Int32.ofInt_toInt]; rfl)) hR hf)
theorem aw_lcmp (C : CF G p s m args meth c cc own) {a b : Int64} (hdg : decode cc pc = .ok (.lcmp, 1)) (kk : AW G p l e R s m args below meth c bc bs Qf (pc + 1) env (vI (lg_cmp a b).toInt :: st) h) : AW G p l e R s m args below meth c bc bs Qf pc env (vL b :: vL a :: st) h := by
  intro ls rs H locs hL hS hR hf
  obtain ⟨rs1, rfl, hS1⟩ := hS.long
  obtain ⟨rs2, rfl, hS2⟩ := hS1.long
  exact W.lcmp C.1 C.2.1 hdg (kk ls _ H locs hL (hS2.cons rfl) hR hf)
theorem aw_dsub (C : CF G p s m args meth c cc own) {a b : UInt64} (hdg : decode cc pc = .ok (.dsub, 1)) (hr : vf_n64 (FP.dsub a b)) (kk : AW G p l e R s m args below meth c bc bs Qf (pc + 1) env (vD (FP.dsub a b) :: st) h) : AW G p l e R s m args below meth c bc bs Qf pc env (vD b :: vD a :: st) h := by
  intro ls rs H locs hL hS hR hf
  obtain ⟨rs1, rfl, hS1⟩ := hS.dbl
  obtain ⟨rs2, rfl, hS2⟩ := hS1.dbl
  exact lv_dsub C.1 C.2.1 hdg hr (kk ls _ H locs hL (hS2.cons rfl) hR hf)
theorem aw_dmul (C : CF G p s m args meth c cc own) {a b : UInt64} (hdg : decode cc pc = .ok (.dmul, 1)) (hr : vf_n64 (FP.dmul a b)) (kk : AW G p l e R s m args below meth c bc bs Qf (pc + 1) env (vD (FP.dmul a b) :: st) h) : AW G p l e R s m args below meth c bc bs Qf pc env (vD b :: vD a :: st) h := by
  intro ls rs H locs hL hS hR hf
  obtain ⟨rs1, rfl, hS1⟩ := hS.dbl
  obtain ⟨rs2, rfl, hS2⟩ := hS1.dbl
  exact lv_dmul C.1 C.2.1 hdg hr (kk ls _ H locs hL (hS2.cons rfl) hR hf)
theorem aw_ddiv (C : CF G p s m args meth c cc own) {a b : UInt64} (hdg : decode cc pc = .ok (.ddiv, 1)) (hr : vf_n64 (FP.ddiv a b)) (kk : AW G p l e R s m args below meth c bc bs Qf (pc + 1) env (vD (FP.ddiv a b) :: st) h) : AW G p l e R s m args below meth c bc bs Qf pc env (vD b :: vD a :: st) h := by
  intro ls rs H locs hL hS hR hf
  obtain ⟨rs1, rfl, hS1⟩ := hS.dbl
  obtain ⟨rs2, rfl, hS2⟩ := hS1.dbl
  exact lv_ddiv C.1 C.2.1 hdg hr (kk ls _ H locs hL (hS2.cons rfl) hR hf)
theorem aw_dcmp (C : CF G p s m args meth c cc own) {a b : UInt64} {op : CmpOp} (hdg : decode cc pc = .ok (.dcmp op, 1)) (kk : AW G p l e R s m args below meth c bc bs Qf (pc + 1) env (vI (Op.cmpValue (FP.dcmp a b) op).toInt :: st) h) : AW G p l e R s m args below meth c bc bs Qf pc env (vD b :: vD a :: st) h := by
  intro ls rs H locs hL hS hR hf
  obtain ⟨rs1, rfl, hS1⟩ := hS.dbl
  obtain ⟨rs2, rfl, hS2⟩ := hS1.dbl
  exact lv_dcmp C.1 C.2.1 hdg (kk ls _ H locs hL (hS2.cons rfl) hR hf)
theorem aw_d2l (C : CF G p s m args meth c cc own) {a : UInt64} (hdg : decode cc pc = .ok (.d2l, 1)) (kk : AW G p l e R s m args below meth c bc bs Qf (pc + 1) env (vL (FP.d2l a) :: st) h) : AW G p l e R s m args below meth c bc bs Qf pc env (vD a :: st) h := by
  intro ls rs H locs hL hS hR hf
  obtain ⟨rs1, rfl, hS1⟩ := hS.dbl
  exact lv_d2l C.1 C.2.1 hdg (kk ls _ H locs hL (hS1.cons rfl) hR hf)
theorem aw_dup (C : CF G p s m args meth c cc own) {v : AV} (hdg : decode cc pc = .ok (.dup, 1)) (hv : acat v = 1) (kk : AW G p l e R s m args below meth c bc bs Qf (pc + 1) env (v :: v :: st) h) : AW G p l e R s m args below meth c bc bs Qf pc env (v :: st) h := by
  intro ls rs H locs hL hS hR hf
  obtain ⟨r, rs1, rfl, e1, hS1⟩ := hS.pop
  exact lv_dup C.1 C.2.1 hdg (by rw [ab_cat e1]; exact hv) (kk ls _ H locs hL ((hS1.cons e1).cons e1) hR hf)
theorem aw_pop (C : CF G p s m args meth c cc own) {v : AV} (hdg : decode cc pc = .ok (.pop, 1)) (hv : acat v = 1) (kk : AW G p l e R s m args below meth c bc bs Qf (pc + 1) env st h) : AW G p l e R s m args below meth c bc bs Qf pc env (v :: st) h := by
  intro ls rs H locs hL hS hR hf
  obtain ⟨r, rs1, rfl, e1, hS1⟩ := hS.pop
  exact lv_pop C.1 C.2.1 hdg (by rw [ab_cat e1]; exact hv) (kk ls _ H locs hL hS1 hR hf)
theorem aw_dup2 (C : CF G p s m args meth c cc own) {v w : AV} (hdg : decode cc pc = .ok (.dup2, 1)) (hv : acat v = 1) (hw : acat w = 1) (kk : AW G p l e R s m args below meth c bc bs Qf (pc + 1) env (v :: w :: v :: w :: st) h) : AW G p l e R s m args below meth c bc bs Qf pc env (v :: w :: st) h := by
  intro ls rs H locs hL hS hR hf
  obtain ⟨r, rs1, rfl, e1, hS1⟩ := hS.pop
  obtain ⟨r2, rs2, rfl, e2, hS2⟩ := hS1.pop
  exact lv_dup2_11 C.1 C.2.1 hdg (by rw [ab_cat e1]; exact hv) (by rw [ab_cat e2]; exact hw) (kk ls _ H locs hL ((((hS2.cons e2).cons e1).cons e2).cons e1) hR hf)
theorem aw_dup_x1 (C : CF G p s m args meth c cc own) {v w : AV} (hdg : decode cc pc = .ok (.dup_x1, 1)) (hv : acat v = 1) (hw : acat w = 1) (kk : AW G p l e R s m args below meth c bc bs Qf (pc + 1) env (v :: w :: v :: st) h) : AW G p l e R s m args below meth c bc bs Qf pc env (v :: w :: st) h := by
  intro ls rs H locs hL hS hR hf
  obtain ⟨r, rs1, rfl, e1, hS1⟩ := hS.pop
  obtain ⟨r2, rs2, rfl, e2, hS2⟩ := hS1.pop
  exact lv_dup_x1 C.1 C.2.1 hdg (by rw [ab_cat e1]; exact hv) (by rw [ab_cat e2]; exact hw) (kk ls _ H locs hL (((hS2.cons e1).cons e2).cons e1) hR hf)
theorem aw_goto (C : CF G p s m args meth c cc own) {off : Int} {tgt : Nat} (hdg : decode cc pc = .ok (.goto off, 3)) (ht : (pc : Int) + off = (tgt : Int)) (kk : AW G p l e R s m args below meth c bc bs Qf tgt env st h) : AW G p l e R s m args below meth c bc bs Qf pc env st h :=
  fun ls rs H locs hL hS hR hf => lv_goto C.1 C.2.1 hdg ht (kk ls _ H locs hL hS hR hf)
theorem aw_if_eq (C : CF G p s m args meth c cc own) {off a : Int} {tgt : Nat} (hdg : decode cc pc = .ok (.ifCond .eq off, 3)) (ht : (pc : Int) + off = (tgt : Int)) (kt : a = 0 → AW G p l e R s m args below meth c bc bs Qf tgt env st h) (kf : ¬ a = 0 → AW G p l e R s m args below meth c bc bs Qf (pc + 3) env st h) : AW G p l e R s m args below meth c bc bs Qf pc env (vI a :: st) h := by
  intro ls rs H locs hL hS hR hf
  obtain ⟨x, rs1, rfl, rfl, hS1⟩ := hS.int
  exact lv_if_eq C.1 C.2.1 hdg ht (fun q => kt (toInt_0.mp q) ls _ H locs hL hS1 hR hf) (fun q => kf (fun z => q (toInt_0.mpr z)) ls _ H locs hL hS1 hR hf)
theorem aw_if_ne (C : CF G p s m args meth c cc own) {off a : Int} {tgt : Nat} (hdg : decode cc pc = .ok (.ifCond .ne off, 3)) (ht : (pc : Int) + off = (tgt : Int)) (kt : ¬ a = 0 → AW G p l e R s m args below meth c bc bs Qf tgt env st h) (kf : a = 0 → AW G p l e R s m args below meth c bc bs Qf (pc + 3) env st h) : AW G p l e R s m args below meth c bc bs Qf pc env (vI a :: st) h := by
  intro ls rs H locs hL hS hR hf
  obtain ⟨x, rs1, rfl, rfl, hS1⟩ := hS.int
  exact lv_if_ne C.1 C.2.1 hdg ht (fun q => kt (fun z => q (toInt_0.mpr z)) ls _ H locs hL hS1 hR hf) (fun q => kf (toInt_0.mp q) ls _ H locs hL hS1 hR hf)
theorem aw_if_lt (C : CF G p s m args meth c cc own) {off a : Int} {tgt : Nat} (hdg : decode cc pc = .ok (.ifCond .lt off, 3)) (ht : (pc : Int) + off = (tgt : Int)) (kt : a < 0 → AW G p l e R s m args below meth c bc bs Qf tgt env st h) (kf : ¬ a < 0 → AW G p l e R s m args below meth c bc bs Qf (pc + 3) env st h) : AW G p l e R s m args below meth c bc bs Qf pc env (vI a :: st) h := by
  intro ls rs H locs hL hS hR hf
  obtain ⟨x, rs1, rfl, rfl, hS1⟩ := hS.int
  exact lv_if_lt C.1 C.2.1 hdg ht (fun q => kt (toInt_lt0.mp q) ls _ H locs hL hS1 hR hf) (fun q => kf (fun z => q (toInt_lt0.mpr z)) ls _ H locs hL hS1 hR hf)
theorem aw_if_ge (C : CF G p s m args meth c cc own) {off a : Int} {tgt : Nat} (hdg : decode cc pc = .ok (.ifCond .ge off, 3)) (ht : (pc : Int) + off = (tgt : Int)) (kt : 0 ≤ a → AW G p l e R s m args below meth c bc bs Qf tgt env st h) (kf : ¬ 0 ≤ a → AW G p l e R s m args below meth c bc bs Qf (pc + 3) env st h) : AW G p l e R s m args below meth c bc bs Qf pc env (vI a :: st) h := by
  intro ls rs H locs hL hS hR hf
  obtain ⟨x, rs1, rfl, rfl, hS1⟩ := hS.int
  exact lv_if_ge C.1 C.2.1 hdg ht (fun q => kt (toInt_ge0.mp q) ls _ H locs hL hS1 hR hf) (fun q => kf (fun z => q (toInt_ge0.mpr z)) ls _ H locs hL hS1 hR hf)
theorem aw_if_gt (C : CF G p s m args meth c cc own) {off a : Int} {tgt : Nat} (hdg : decode cc pc = .ok (.ifCond .gt off, 3)) (ht : (pc : Int) + off = (tgt : Int)) (kt : 0 < a → AW G p l e R s m args below meth c bc bs Qf tgt env st h) (kf : ¬ 0 < a → AW G p l e R s m args below meth c bc bs Qf (pc + 3) env st h) : AW G p l e R s m args below meth c bc bs Qf pc env (vI a :: st) h := by
  intro ls rs H locs hL hS hR hf
  obtain ⟨x, rs1, rfl, rfl, hS1⟩ := hS.int
  exact lv_if_gt C.1 C.2.1 hdg ht (fun q => kt (toInt_gt0.mp q) ls _ H locs hL hS1 hR hf) (fun q => kf (fun z => q (toInt_gt0.mpr z)) ls _ H locs hL hS1 hR hf)
theorem aw_if_le (C : CF G p s m args meth c cc own) {off a : Int} {tgt : Nat} (hdg : decode cc pc = .ok (.ifCond .le off, 3)) (ht : (pc : Int) + off = (tgt : Int)) (kt : a ≤ 0 → AW G p l e R s m args below meth c bc bs Qf tgt env st h) (kf : ¬ a ≤ 0 → AW G p l e R s m args below meth c bc bs Qf (pc + 3) env st h) : AW G p l e R s m args below meth c bc bs Qf pc env (vI a :: st) h := by
  intro ls rs H locs hL hS hR hf
  obtain ⟨x, rs1, rfl, rfl, hS1⟩ := hS.int
  exact lv_if_le C.1 C.2.1 hdg ht (fun q => kt (toInt_le0.mp q) ls _ H locs hL hS1 hR hf) (fun q => kf (fun z => q (toInt_le0.mpr z)) ls _ H locs hL hS1 hR hf)
theorem aw_icmp_eq (C : CF G p s m args meth c cc own) {off a b : Int} {tgt : Nat} (hdg : decode cc pc = .ok (.if_icmp .eq off, 3)) (ht : (pc : Int) + off = (tgt : Int)) (kt : a = b → AW G p l e R s m args below meth c bc bs Qf tgt env st h) (kf : ¬ a = b → AW G p l e R s m args below meth c bc bs Qf (pc + 3) env st h) : AW G p l e R s m args below meth c bc bs Qf pc env (vI b :: vI a :: st) h := by
  intro ls rs H locs hL hS hR hf
  obtain ⟨y, rs1, rfl, rfl, hS1⟩ := hS.int
  obtain ⟨x, rs2, rfl, rfl, hS2⟩ := hS1.int
  exact lv_icmp_eq C.1 C.2.1 hdg ht (fun q => kt (toInt_eq.mp q) ls _ H locs hL hS2 hR hf) (fun q => kf (fun z => q (toInt_eq.mpr z)) ls _ H locs hL hS2 hR hf)
theorem aw_icmp_ne (C : CF G p s m args meth c cc own) {off a b : Int} {tgt : Nat} (hdg : decode cc pc = .ok (.if_icmp .ne off, 3)) (ht : (pc : Int) + off = (tgt : Int)) (kt : ¬ a = b → AW G p l e R s m args below meth c bc bs Qf tgt env st h) (kf : a = b → AW G p l e R s m args below meth c bc bs Qf (pc + 3) env st h) : AW G p l e R s m args below meth c bc bs Qf pc env (vI b :: vI a :: st) h := by
  intro ls rs H locs hL hS hR hf
  obtain ⟨y, rs1, rfl, rfl, hS1⟩ := hS.int
  obtain ⟨x, rs2, rfl, rfl, hS2⟩ := hS1.int
  exact lv_icmp_ne C.1 C.2.1 hdg ht (fun q => kt (fun z => q (toInt_eq.mpr z)) ls _ H locs hL hS2 hR hf) (fun q => kf (toInt_eq.mp q) ls _ H locs hL hS2 hR hf)
theorem aw_icmp_lt (C : CF G p s m args meth c cc own) {off a b : Int} {tgt : Nat} (hdg : decode cc pc = .ok (.if_icmp .lt off, 3)) (ht : (pc : Int) + off = (tgt : Int)) (kt : a < b → AW G p l e R s m args below meth c bc bs Qf tgt env st h) (kf : ¬ a < b → AW G p l e R s m args below meth c bc bs Qf (pc + 3) env st h) : AW G p l e R s m args below meth c bc bs Qf pc env (vI b :: vI a :: st) h := by
  intro ls rs H locs hL hS hR hf
  obtain ⟨y, rs1, rfl, rfl, hS1⟩ := hS.int
  obtain ⟨x, rs2, rfl, rfl, hS2⟩ := hS1.int
  exact lv_icmp_lt C.1 C.2.1 hdg ht (fun q => kt (toInt_lt.mp q) ls _ H locs hL hS2 hR hf) (fun q => kf (fun z => q (toInt_lt.mpr z)) ls _ H locs hL hS2 hR hf)
theorem aw_icmp_ge (C : CF G p s m args meth c cc own) {off a b : Int} {tgt : Nat} (hdg : decode cc pc = .ok (.if_icmp .ge off, 3)) (ht : (pc : Int) + off = (tgt : Int)) (kt : b ≤ a → AW G p l e R s m args below meth c bc bs Qf tgt env st h) (kf : ¬ b ≤ a → AW G p l e R s m args below meth c bc bs Qf (pc + 3) env st h) : AW G p l e R s m args below meth c bc bs Qf pc env (vI b :: vI a :: st) h := by
  intro ls rs H locs hL hS hR hf
  obtain ⟨y, rs1, rfl, rfl, hS1⟩ := hS.int
  obtain ⟨x, rs2, rfl, rfl, hS2⟩ := hS1.int
  exact lv_icmp_ge C.1 C.2.1 hdg ht (fun q => kt (toInt_le.mp q) ls _ H locs hL hS2 hR hf) (fun q => kf (fun z => q (toInt_le.mpr z)) ls _ H locs hL hS2 hR hf)
theorem aw_icmp_gt (C : CF G p s m args meth c cc own) {off a b : Int} {tgt : Nat} (hdg : decode cc pc = .ok (.if_icmp .gt off, 3)) (ht : (pc : Int) + off = (tgt : Int)) (kt : b < a → AW G p l e R s m args below meth c bc bs Qf tgt env st h) (kf : ¬ b < a → AW G p l e R s m args below meth c bc bs Qf (pc + 3) env st h) : AW G p l e R s m args below meth c bc bs Qf pc env (vI b :: vI a :: st) h := by
  intro ls rs H locs hL hS hR hf
  obtain ⟨y, rs1, rfl, rfl, hS1⟩ := hS.int
  obtain ⟨x, rs2, rfl, rfl, hS2⟩ := hS1.int
  exact lv_icmp_gt C.1 C.2.1 hdg ht (fun q => kt (toInt_lt.mp q) ls _ H locs hL hS2 hR hf) (fun q => kf (fun z => q (toInt_lt.mpr z)) ls _ H locs hL hS2 hR hf)
theorem aw_icmp_le (C : CF G p s m args meth c cc own) {off a b : Int} {tgt : Nat} (hdg : decode cc pc = .ok (.if_icmp .le off, 3)) (ht : (pc : Int) + off = (tgt : Int)) (kt : a ≤ b → AW G p l e R s m args below meth c bc bs Qf tgt env st h) (kf : ¬ a ≤ b → AW G p l e R s m args below meth c bc bs Qf (pc + 3) env st h) : AW G p l e R s m args below meth c bc bs Qf pc env (vI b :: vI a :: st) h := by
  intro ls rs H locs hL hS hR hf
  obtain ⟨y, rs1, rfl, rfl, hS1⟩ := hS.int
  obtain ⟨x, rs2, rfl, rfl, hS2⟩ := hS1.int
  exact lv_icmp_le C.1 C.2.1 hdg ht (fun q => kt (toInt_le.mp q) ls _ H locs hL hS2 hR hf) (fun q => kf (fun z => q (toInt_le.mpr z)) ls _ H locs hL hS2 hR hf)
/-- a switch: the value as a mathematical int -/
theorem aw_lookup (C : CF G p s m args meth c cc own) {dflt : Int} {ps : Array (Int × Int)} {len : Nat} {a off : Int} {tgt : Nat} (hdg : decode cc pc = .ok (.lookupswitch dflt ps, len)) (hp : (ps.toList.zip (ps.toList.drop 1)).all (fun (a, next) => a.1 < next.1) = true) (ho : Op.lookupswitch.offset ps.toList dflt a = off) (ht : (pc : Int) + off = (tgt : Int)) (kk : AW G p l e R s m args below meth c bc bs Qf tgt env st h) : AW G p l e R s m args below meth c bc bs Qf pc env (vI a :: st) h := by
  intro ls rs H locs hL hS hR hf
  obtain ⟨x, rs1, rfl, rfl, hS1⟩ := hS.int
  exact lv_lookup C.1 C.2.1 hdg hp ho ht (kk ls _ H locs hL hS1 hR hf)
theorem aw_tableOut (C : CF G p s m args meth c cc own) {dflt lo hi : Int} {offs : Array Int} {len : Nat} {a : Int} {tgt : Nat} (hdg : decode cc pc = .ok (.tableswitch dflt lo hi offs, len)) (ha : a < lo ∨ hi < a) (ht : (pc : Int) + dflt = (tgt : Int)) (kk : AW G p l e R s m args below meth c bc bs Qf tgt env st h) : AW G p l e R s m args below meth c bc bs Qf pc env (vI a :: st) h := by
  intro ls rs H locs hL hS hR hf
  obtain ⟨x, rs1, rfl, rfl, hS1⟩ := hS.int
  exact lv_tableOut C.1 C.2.1 hdg ha ht (kk ls _ H locs hL hS1 hR hf)
theorem aw_tableIn (C : CF G p s m args meth c cc own) {dflt lo hi : Int} {offs : Array Int} {len : Nat} {a off : Int} {tgt : Nat} (hdg : decode cc pc = .ok (.tableswitch dflt lo hi offs, len)) (h1 : ¬ a < lo) (h2 : ¬ hi < a) (ho : offs[(a - lo).toNat]? = some off) (ht : (pc : Int) + off = (tgt : Int)) (kk : AW G p l e R s m args below meth c bc bs Qf tgt env st h) : AW G p l e R s m args below meth c bc bs Qf pc env (vI a :: st) h := by
  intro ls rs H locs hL hS hR hf
  obtain ⟨x, rs1, rfl, rfl, hS1⟩ := hS.int
  exact lv_tableIn C.1 C.2.1 hdg h1 h2 ho ht (kk ls _ H locs hL hS1 hR hf)
end AWR
end
section
/-! HEAP ROWS, CALLS, METHODS -/
theorem mem_idx {ws : List Cond} (ps : List Nat) (h : ws = ps.filterMap (fun i => tables_1[i]?)) (g : ws.all goodWord = true) : ∀ w ∈ ws, w ∈ xTb := by
  intro w hw
  have hg := List.all_eq_true.mp g w hw
  rw [h] at hw
  obtain ⟨i, -, hi⟩ := List.mem_filterMap.mp hw
  exact xTb_in (List.mem_append_right _ (List.mem_of_getElem? hi)) hg
theorem tb (i : Nat) {w : Cond} (h : tables_1[i]? = some w) (g : goodWord w = true) : w ∈ xTb := xTb_in (List.mem_append_right _ (List.mem_of_getElem? h)) g
theorem tbp (i : Nat) {y : MethodName} {n : Nat} (h : lw_privs[i]? = some (y, n)) : Cond.selects y.cls y y ∈ xTb := xTb_in (List.mem_append_left _ (List.mem_map.mpr ⟨(y, n), List.mem_of_getElem? h, rfl⟩)) rfl
def CI (ci : Nat) (C : String) (T : u_T) (N : Nat) : Prop := vwCl[ci]? = some (C, T, N) ∧ (∀ w ∈ u_ws C T N, w ∈ xTb) ∧ (∀ k, k < N → parseFieldDescriptor (T k).2.2.1 = some (vwTy ci k)) ∧ (∀ a, a < N → ∀ b, b < N → a ≠ b → (T a).2.1 ≠ (T b).2.1)
theorem ci0 : CI 0 RX0 TX0 3 := ⟨rfl, mem_idx [216, 218, 220] (by decide +kernel) (by decide +kernel), tyX0_ok, nmX0⟩
theorem ci1 : CI 1 RX1 TX1 9 := ⟨rfl, mem_idx [184, 186, 188, 190, 192, 194, 196, 198, 200] (by decide +kernel) (by decide +kernel), tyX1_ok, nmX1⟩
theorem ci2 : CI 2 RX2 TX2 13 := ⟨rfl, mem_idx [146, 148, 150, 152, 154, 156, 158, 160, 162, 164, 166, 168, 170] (by decide +kernel) (by decide +kernel), tyX2_ok, nmX2⟩
theorem ci3 : CI 3 RX3 TX3 7 := ⟨rfl, mem_idx [107, 109, 111, 113, 115, 117, 119] (by decide +kernel) (by decide +kernel), tyX3_ok, nmX3⟩
theorem ci4 : CI 4 RX4 TX4 3 := ⟨rfl, mem_idx [73, 75, 77] (by decide +kernel) (by decide +kernel), tyX4_ok, nmX4⟩
theorem ci5 : CI 5 RX5 TX5 3 := ⟨rfl, mem_idx [53, 55, 57] (by decide +kernel) (by decide +kernel), tyX5_ok, nmX5⟩
theorem ci6 : CI 6 RX6 TX6 8 := ⟨rfl, mem_idx [231, 233, 235, 237, 239, 241, 243, 245] (by decide +kernel) (by decide +kernel), tyX6_ok, nmX6⟩
theorem ci7 : CI 7 RX7 TX7 21 := ⟨rfl, mem_idx [813, 815, 817, 819, 821, 823, 825, 827, 829, 831, 833, 835, 837, 839, 841, 843, 845, 847, 849, 851, 853] (by decide +kernel) (by decide +kernel), tyX7_ok, nmX7⟩
theorem RC.obj {s : State} {D : va_G} {h : AH} {H : Heap} {q ci : Nat} {C : String} {T : u_T} {N : Nat} (I : CI ci C T N) (rc : RC s D h H q) (hk : (hkd h q).1 = ci + 4) : ∃ V : Nat → Value, t_OB q (D.1 ci) N (D.2 ci) H V ∧ ∀ k, k < N → fvr h q ci k (V k) := by
  unfold RC at rc
  generalize hkd h q = kd at rc hk
  obtain ⟨k1, k2⟩ := kd
  subst hk
  obtain ⟨r, V, hr, h1, h2⟩ := rc
  have : r = (C, T, N) := Option.some.inj (hr.symm.trans I.1)
  subst this
  exact ⟨V, h1, h2⟩
theorem RC.ofObj {s : State} {D : va_G} {h : AH} {H : Heap} {q ci : Nat} {C : String} {T : u_T} {N : Nat} (I : CI ci C T N) (hk : (hkd h q).1 = ci + 4) {V : Nat → Value} (h1 : t_OB q (D.1 ci) N (D.2 ci) H V) (h2 : ∀ k, k < N → fvr h q ci k (V k)) : RC s D h H q := by
  unfold RC
  generalize hkd h q = kd at hk
  obtain ⟨k1, k2⟩ := kd
  subst hk
  exact ⟨_, V, I.1, h1, h2⟩
theorem RC.arrI {s : State} {D : va_G} {h : AH} {H : Heap} {q n : Nat} (rc : RC s D h H q) (hk : hkd h q = (1, n)) : ∃ cell : Cell, H[q]? = some cell ∧ s.isArrayOf cell .int ∧ cell.vm ≠ .unknown ∧ cell.slots.size = n ∧ n < 2147483648 ∧ ∀ j : Nat, j < n → ∃ x : Int32, cell.slots[j]? = some (.int x) ∧ x.toInt = haI h q j := by
  unfold RC at rc; rw [hk] at rc; exact rc
theorem RC.arrL {s : State} {D : va_G} {h : AH} {H : Heap} {q n : Nat} (rc : RC s D h H q) (hk : hkd h q = (2, n)) : ∃ cell : Cell, H[q]? = some cell ∧ s.isArrayOf cell .long ∧ cell.vm ≠ .unknown ∧ cell.slots.size = n ∧ n < 2147483648 ∧ ∀ j : Nat, j < n → cell.slots[j]? = some (.long (haL h q j)) := by
  unfold RC at rc; rw [hk] at rc; exact rc
theorem RC.arrR {s : State} {D : va_G} {h : AH} {H : Heap} {q n : Nat} (rc : RC s D h H q) (hk : hkd h q = (3, n)) : ∃ (cA : ClassId) (f : Nat → Option Nat), H[q]? = some (arrV cA n (fun j => va_rf (f j))) ∧ ArrOfT s cA (.object RX4) ∧ va_RA s cA (.object RX4) ∧ n < 2147483648 ∧ ∀ j : Nat, j < n → f j = haR h q j := by
  unfold RC at rc; rw [hk] at rc; exact rc
theorem objP {D : va_G} {ci : Nat} {C : String} {T : u_T} {N : Nat} {H : Heap} {a : Nat} {V : Nat → Value} (I : CI ci C T N) (h1 : t_OB a (D.1 ci) N (D.2 ci) H V) : va_P D vwCl [(a, .inr (ci, (List.range N).map V))] H := by
  intro k q hq
  have hz : k < 1 := (List.getElem?_eq_some_iff.mp hq).1
  rw [show k = 0 by omega] at hq
  cases hq
  refine ⟨_, I.1, h1.to (fun j hj => ?_)⟩
  show V j = ((List.range N).map V).getD j .null
  rw [List.getD_eq_getElem?_getD, List.getElem?_map, List.getElem?_range hj]; rfl
theorem objget {N k : Nat} {V : Nat → Value} (hk : k < N) : ((List.range N).map V)[k]? = some (V k) := by
  rw [List.getElem?_map, List.getElem?_range hk]; rfl
theorem u0_s {α : Type} {f : Nat → α} {a : Nat} {v : α} : u0 f a v a = v := by simp [u0]
theorem u0_n {α : Type} {f : Nat → α} {a q : Nat} {v : α} (h : q ≠ a) : u0 f a v q = f q := by simp [u0, h]
theorem u1_s {α : Type} {f : Int → α} {a : Int} {v : α} : u1 f a v a = v := by simp [u1]
theorem u1_n {α : Type} {f : Int → α} {a q : Int} {v : α} (h : q ≠ a) : u1 f a v q = f q := by simp [u1, h]
section AWH
variable {G : GG} {p : Program} {l : Launch} {e : Env} {R : Room} {s : State} {m : MethodId} {args : Array Value} {below : List Frame} {meth : Method} {c : Code} {bc bs : Nat} {Qf : State → Prop} {cc : ByteArray} {own : String}
variable {pc : Nat} {env : Nat → Option AV} {st : List AV} {h : AH}
theorem get_core (C : CF G p s m args meth c cc own) {ci k idx : Nat} {Cn : String} {T : u_T} {N : Nat} (I : CI ci Cn T N) (hk : k < N) (hw : Cond.fieldLink own idx (T k).1 (T k).2.1 (T k).2.2.1 ∈ xTb) (hdg : decode cc pc = .ok (.getfield idx, 3)) {a : Nat} (ha : (hkd h a).1 = ci + 4) {P : AV → Prop} (hP : ∀ r, fvr h a ci k r → ∃ v, ab r = some v ∧ P v) (kk : ∀ v, P v → AW G p l e R s m args below meth c bc bs Qf (pc + 3) env (v :: st) h) : AW G p l e R s m args below meth c bc bs Qf pc env (vR a :: st) h := by
  intro ls rs H locs hL hS hR hf
  obtain ⟨rs1, rfl, hS1⟩ := hS.ref
  obtain ⟨V, h1, h2⟩ := (hR.2.2.2.2 a).obj I ha
  obtain ⟨v, e1, e2⟩ := hP _ (h2 k hk)
  exact va_get C.1 C.2.1 C.2.2.2.1 I.2.1 C.2.2.1 C.2.2.2.2.2.1 (objP I h1) 0 rfl I.1 k hk (C.2.2.2.1 _ hw) (fun _ h9 => h9) (objget hk) hdg (kk v e2 ls _ H locs hL (hS1.cons e1) hR hf)
theorem aw_getI (C : CF G p s m args meth c cc own) {ci k idx : Nat} {Cn : String} {T : u_T} {N : Nat} (I : CI ci Cn T N) (hk : k < N) (hw : Cond.fieldLink own idx (T k).1 (T k).2.1 (T k).2.2.1 ∈ xTb) (hdg : decode cc pc = .ok (.getfield idx, 3)) {a : Nat} (hty : vwTy ci k = .int) (ha : (hkd h a).1 = ci + 4) (kk : AW G p l e R s m args below meth c bc bs Qf (pc + 3) env (vI (hfI h a k) :: st) h) : AW G p l e R s m args below meth c bc bs Qf pc env (vR a :: st) h :=
  get_core C I hk hw hdg ha (P := fun v => v = vI (hfI h a k)) (fun r hr => by unfold fvr at hr; rw [hty] at hr; obtain ⟨x, rfl, hx⟩ := hr; exact ⟨_, rfl, by rw [hx]⟩) (fun v hv => by rw [hv]; exact kk)
theorem aw_getZ (C : CF G p s m args meth c cc own) {ci k idx : Nat} {Cn : String} {T : u_T} {N : Nat} (I : CI ci Cn T N) (hk : k < N) (hw : Cond.fieldLink own idx (T k).1 (T k).2.1 (T k).2.2.1 ∈ xTb) (hdg : decode cc pc = .ok (.getfield idx, 3)) {a : Nat} (hty : vwTy ci k = .boolean) (ha : (hkd h a).1 = ci + 4) (kk : AW G p l e R s m args below meth c bc bs Qf (pc + 3) env (vI (hfI h a k) :: st) h) : AW G p l e R s m args below meth c bc bs Qf pc env (vR a :: st) h :=
  get_core C I hk hw hdg ha (P := fun v => v = vI (hfI h a k)) (fun r hr => by unfold fvr at hr; rw [hty] at hr; obtain ⟨x, rfl, hx⟩ := hr; exact ⟨_, rfl, by rw [hx]⟩) (fun v hv => by rw [hv]; exact kk)
theorem aw_getL (C : CF G p s m args meth c cc own) {ci k idx : Nat} {Cn : String} {T : u_T} {N : Nat} (I : CI ci Cn T N) (hk : k < N) (hw : Cond.fieldLink own idx (T k).1 (T k).2.1 (T k).2.2.1 ∈ xTb) (hdg : decode cc pc = .ok (.getfield idx, 3)) {a : Nat} (hty : vwTy ci k = .long) (ha : (hkd h a).1 = ci + 4) (kk : AW G p l e R s m args below meth c bc bs Qf (pc + 3) env (vL (hfL h a k) :: st) h) : AW G p l e R s m args below meth c bc bs Qf pc env (vR a :: st) h :=
  get_core C I hk hw hdg ha (P := fun v => v = vL (hfL h a k)) (fun r hr => by unfold fvr at hr; rw [hty] at hr; subst hr; exact ⟨_, rfl, rfl⟩) (fun v hv => by rw [hv]; exact kk)
def isRefTy (t : FieldType) : Bool := match t with
  | .object _ => true
  | .array _ => true
  | _ => false
theorem fvr_ref {h : AH} {q c k : Nat} {v : Value} (hty : isRefTy (vwTy c k) = true) : fvr h q c k v ↔ v = va_rf (hfR h q k) := by
  unfold fvr
  generalize vwTy c k = t at hty
  cases t <;> simp [isRefTy] at hty ⊢
/-- a reference that isn't null: b -/
theorem aw_getR (C : CF G p s m args meth c cc own) {ci k idx : Nat} {Cn : String} {T : u_T} {N : Nat} (I : CI ci Cn T N) (hk : k < N) (hw : Cond.fieldLink own idx (T k).1 (T k).2.1 (T k).2.2.1 ∈ xTb) (hdg : decode cc pc = .ok (.getfield idx, 3)) {a b : Nat} (hty : isRefTy (vwTy ci k) = true) (ha : (hkd h a).1 = ci + 4) (hb : hfR h a k = some b) (kk : AW G p l e R s m args below meth c bc bs Qf (pc + 3) env (vR b :: st) h) : AW G p l e R s m args below meth c bc bs Qf pc env (vR a :: st) h :=
  get_core C I hk hw hdg ha (P := fun v => v = vR b) (fun r hr => by rw [fvr_ref hty] at hr; subst hr; exact ⟨vR b, by rw [hb]; rfl, rfl⟩) (fun v hv => by rw [hv]; exact kk)
theorem put_core (C : CF G p s m args meth c cc own) {ci k idx : Nat} {Cn : String} {T : u_T} {N : Nat} (I : CI ci Cn T N) (hk : k < N) (hw : Cond.fieldLink own idx (T k).1 (T k).2.1 (T k).2.2.1 ∈ xTb) (hfin : (T k).2.2.2 = false ∨ ((T k).2.2.2 = true ∧ meth.name = "<init>" ∧ (T k).1 = own)) (hdg : decode cc pc = .ok (.putfield idx, 3)) {a : Nat} (ha : (hkd h a).1 = ci + 4) (hlw : hlo h ≤ a) {v : AV} {h' : AH}
    (e1 : h'.1 = h.1) (e2 : ∀ q, q ≠ a → agr h h' q) (ek : hkd h' a = hkd h a) (eo : ∀ j, j ≠ k → ∀ r, fvr h a ci j r → fvr h' a ci j r) (hv : ∀ r, ab r = some v → narrow (vwTy ci k) r = r ∧ fits (vwTy ci k) r = true ∧ fvr h' a ci k r)
    (kk : AW G p l e R s m args below meth c bc bs Qf (pc + 3) env st h') : AW G p l e R s m args below meth c bc bs Qf pc env (v :: vR a :: st) h := by
  intro ls rs H locs hL hS hR hf
  obtain ⟨r, rs1, rfl, er, hS1⟩ := hS.pop
  obtain ⟨rs2, rfl, hS2⟩ := hS1.ref
  obtain ⟨V, h1, h2⟩ := (hR.2.2.2.2 a).obj I ha
  obtain ⟨n1, n2, n3⟩ := hv r er
  obtain ⟨cell, q1, q2, q3, q4⟩ := h1
  have hK := C.2.2.2.2.2.1
  have hap := va_apart (own := own) C.2.2.2.1 I.2.1 (vwTy ci) I.2.2.1 I.2.2.2 hK I.1
  obtain ⟨hSl, hfc, kC, hkC, hkind⟩ := hK.1 ci _ I.1
  obtain ⟨cf, kf, fi, f, hi, hsl⟩ := hSl k hk
  have hlay := C.2.2.2.1 _ (I.2.1 _ (u_in_lay hk))
  have fin : ∀ H' : Heap, H'[a]? = some (cell.setSlot f.slot r) → H'.size = H.size → (∀ q, q ≠ a → H'[q]? = H[q]?) → Rel s G.1 G.2.1 h' H' := by
    intro H' g1 g2 g3
    rw [hsl] at g1
    refine hR.upd g2 g3 hlw e1 e2 (RC.ofObj I (by rw [ek]; exact ha) (V := updV V k r) ⟨_, g1, q2, q3, t_set q4 hap hk r⟩ (fun j hj => ?_))
    by_cases hjk : j = k
    · subst hjk; simpa [updV] using n3
    · simp only [updV, if_neg hjk]; exact eo j hjk _ (h2 j hj)
  have hlo' : ∀ q ∈ locs ++ [⟨a, f.slot⟩], G.2.1.size ≤ q.base := by
    intro q hq
    rcases List.mem_append.mp hq with hq | hq
    · exact hf q hq
    · rw [List.mem_singleton.mp hq]; rw [hR.1] at hlw; exact hlw
  rcases hfin with hfin | ⟨hfin, hin2, hdecl⟩
  · unfold u_lay at hlay
    rw [if_neg (by rw [hfin]; decide)] at hlay
    have hst := (u_facts hfc hkC (u_lays C.2.2.2.1 I.2.1 hk) hi).1
    have h6 := u_store hfc hkC hkind hlay hi (I.2.2.1 k hk) n1 n2
    exact W.putK C.1 C.2.1 (f := f) ⟨C.2.2.1, C.2.2.2.1 _ hw, ⟨_, _, _, hi⟩, hst⟩ (by rw [q2]; exact h6) q1 q3 (by rw [hsl]; exact k2_hasslot (q4 k hk)) rfl rfl hdg fun H' g1 g2 g3 => kk ls _ H' _ hL hS2 (fin H' g1 g2 g3) hlo'
  · unfold u_lay at hlay
    rw [if_pos hfin] at hlay
    have hst := (u_facts hfc hkC (u_lays C.2.2.2.1 I.2.1 hk) hi).1
    have hcf : m.cls = cf := by
      obtain ⟨_, _, c', _, _, _, -, -, hf', -, -, -, hown2, -⟩ := Cond.laysFinal_spec hlay
      have e1 : c' = cf := by have := hi.symm.trans hf'; simp at this; exact this.1.symm
      rw [hdecl] at hown2
      rw [← e1]; exact Option.some.inj (C.2.2.1.symm.trans hown2)
    have h6 := u_fits hfc hkC hkind (Or.inr hlay) hi (I.2.2.1 k hk) n1 n2
    exact W.putFinK C.1 C.2.1 C.2.2.1 (C.2.2.2.1 _ hw) hi hst hcf hin2 (by rw [q2]; exact h6) q1 q3 (by rw [hsl]; exact k2_hasslot (q4 k hk)) rfl rfl hdg fun H' g1 g2 g3 => kk ls _ H' _ hL hS2 (fin H' g1 g2 g3) hlo'
theorem agr_sfI {h : AH} {a k : Nat} {v : Int} : ∀ q, q ≠ a → agr h (sfI h a k v) q := fun q hq => ⟨rfl, u0_n hq, rfl, rfl, rfl, rfl, rfl⟩
theorem agr_sfR {h : AH} {a k : Nat} {v : Option Nat} : ∀ q, q ≠ a → agr h (sfR h a k v) q := fun q hq => ⟨rfl, rfl, u0_n hq, rfl, rfl, rfl, rfl⟩
theorem agr_sfL {h : AH} {a k : Nat} {v : Int64} : ∀ q, q ≠ a → agr h (sfL h a k v) q := fun q hq => ⟨rfl, rfl, rfl, u0_n hq, rfl, rfl, rfl⟩
theorem sfI_s {h : AH} {a k : Nat} {v : Int} : hfI (sfI h a k v) a k = v := by show u0 (hfI h) a (u0 (hfI h a) k v) a k = v; rw [u0_s, u0_s]
theorem sfI_n {h : AH} {a k j : Nat} {v : Int} (hj : j ≠ k) : hfI (sfI h a k v) a j = hfI h a j := by show u0 (hfI h) a (u0 (hfI h a) k v) a j = _; rw [u0_s, u0_n hj]
theorem sfR_s {h : AH} {a k : Nat} {v : Option Nat} : hfR (sfR h a k v) a k = v := by show u0 (hfR h) a (u0 (hfR h a) k v) a k = v; rw [u0_s, u0_s]
theorem sfR_n {h : AH} {a k j : Nat} {v : Option Nat} (hj : j ≠ k) : hfR (sfR h a k v) a j = hfR h a j := by show u0 (hfR h) a (u0 (hfR h a) k v) a j = _; rw [u0_s, u0_n hj]
theorem sfL_s {h : AH} {a k : Nat} {v : Int64} : hfL (sfL h a k v) a k = v := by show u0 (hfL h) a (u0 (hfL h a) k v) a k = v; rw [u0_s, u0_s]
theorem sfL_n {h : AH} {a k j : Nat} {v : Int64} (hj : j ≠ k) : hfL (sfL h a k v) a j = hfL h a j := by show u0 (hfL h) a (u0 (hfL h a) k v) a j = _; rw [u0_s, u0_n hj]
theorem fvr_sfI {h : AH} {a c k j : Nat} {v : Int} (hj : j ≠ k) {r : Value} (hr : fvr h a c j r) : fvr (sfI h a k v) a c j r := by
  unfold fvr at hr ⊢
  rw [sfI_n hj]; exact hr
theorem fvr_sfR {h : AH} {a c k j : Nat} {v : Option Nat} (hj : j ≠ k) {r : Value} (hr : fvr h a c j r) : fvr (sfR h a k v) a c j r := by
  unfold fvr at hr ⊢
  rw [sfR_n hj]; exact hr
theorem fvr_sfL {h : AH} {a c k j : Nat} {v : Int64} (hj : j ≠ k) {r : Value} (hr : fvr h a c j r) : fvr (sfL h a k v) a c j r := by
  unfold fvr at hr ⊢
  rw [sfL_n hj]; exact hr
theorem aw_putI (C : CF G p s m args meth c cc own) {ci k idx : Nat} {Cn : String} {T : u_T} {N : Nat} (I : CI ci Cn T N) (hk : k < N) (hw : Cond.fieldLink own idx (T k).1 (T k).2.1 (T k).2.2.1 ∈ xTb) (hfin : (T k).2.2.2 = false ∨ ((T k).2.2.2 = true ∧ meth.name = "<init>" ∧ (T k).1 = own)) (hdg : decode cc pc = .ok (.putfield idx, 3)) {a : Nat} {i : Int} (hty : vwTy ci k = .int) (ha : (hkd h a).1 = ci + 4 ∧ hlo h ≤ a)
    (kk : AW G p l e R s m args below meth c bc bs Qf (pc + 3) env st (sfI h a k i)) : AW G p l e R s m args below meth c bc bs Qf pc env (vI i :: vR a :: st) h :=
  put_core (h' := sfI h a k i) C I hk hw hfin hdg ha.1 ha.2 rfl agr_sfI rfl (fun j hj r hr => fvr_sfI hj hr) (fun r hr => by
    obtain ⟨x, rfl, hx⟩ := ab_int hr
    rw [hty]
    refine ⟨rfl, rfl, ?_⟩
    unfold fvr; rw [hty, sfI_s]; exact ⟨x, rfl, hx⟩) kk
theorem aw_putZ (C : CF G p s m args meth c cc own) {ci k idx : Nat} {Cn : String} {T : u_T} {N : Nat} (I : CI ci Cn T N) (hk : k < N) (hw : Cond.fieldLink own idx (T k).1 (T k).2.1 (T k).2.2.1 ∈ xTb) (hfin : (T k).2.2.2 = false ∨ ((T k).2.2.2 = true ∧ meth.name = "<init>" ∧ (T k).1 = own)) (hdg : decode cc pc = .ok (.putfield idx, 3)) {a : Nat} {i : Int} (hty : vwTy ci k = .boolean) (ha : (hkd h a).1 = ci + 4 ∧ hlo h ≤ a) (hz : i = 0 ∨ i = 1)
    (kk : AW G p l e R s m args below meth c bc bs Qf (pc + 3) env st (sfI h a k i)) : AW G p l e R s m args below meth c bc bs Qf pc env (vI i :: vR a :: st) h :=
  put_core (h' := sfI h a k i) C I hk hw hfin hdg ha.1 ha.2 rfl agr_sfI rfl (fun j hj r hr => fvr_sfI hj hr) (fun r hr => by
    obtain ⟨x, rfl, hx⟩ := ab_int hr
    have hx2 : x = 0 ∨ x = 1 := by
      rcases hz with hz | hz
      · left; rw [toInt_eq, hx, hz]; rfl
      · right; rw [toInt_eq, hx, hz]; rfl
    rw [hty]
    refine ⟨by rcases hx2 with rfl | rfl <;> rfl, by rcases hx2 with rfl | rfl <;> rfl, ?_⟩
    unfold fvr; rw [hty, sfI_s]; exact ⟨x, rfl, hx⟩) kk
theorem aw_putL (C : CF G p s m args meth c cc own) {ci k idx : Nat} {Cn : String} {T : u_T} {N : Nat} (I : CI ci Cn T N) (hk : k < N) (hw : Cond.fieldLink own idx (T k).1 (T k).2.1 (T k).2.2.1 ∈ xTb) (hfin : (T k).2.2.2 = false ∨ ((T k).2.2.2 = true ∧ meth.name = "<init>" ∧ (T k).1 = own)) (hdg : decode cc pc = .ok (.putfield idx, 3)) {a : Nat} {i : Int64} (hty : vwTy ci k = .long) (ha : (hkd h a).1 = ci + 4 ∧ hlo h ≤ a)
    (kk : AW G p l e R s m args below meth c bc bs Qf (pc + 3) env st (sfL h a k i)) : AW G p l e R s m args below meth c bc bs Qf pc env (vL i :: vR a :: st) h :=
  put_core (h' := sfL h a k i) C I hk hw hfin hdg ha.1 ha.2 rfl agr_sfL rfl (fun j hj r hr => fvr_sfL hj hr) (fun r hr => by
    have := ab_long hr
    subst this
    rw [hty]
    refine ⟨rfl, rfl, ?_⟩
    unfold fvr; rw [hty, sfL_s]) kk
theorem aw_putR (C : CF G p s m args meth c cc own) {ci k idx : Nat} {Cn : String} {T : u_T} {N : Nat} (I : CI ci Cn T N) (hk : k < N) (hw : Cond.fieldLink own idx (T k).1 (T k).2.1 (T k).2.2.1 ∈ xTb) (hfin : (T k).2.2.2 = false ∨ ((T k).2.2.2 = true ∧ meth.name = "<init>" ∧ (T k).1 = own)) (hdg : decode cc pc = .ok (.putfield idx, 3)) {a b : Nat} (hty : isRefTy (vwTy ci k) = true) (ha : (hkd h a).1 = ci + 4 ∧ hlo h ≤ a)
    (kk : AW G p l e R s m args below meth c bc bs Qf (pc + 3) env st (sfR h a k (some b))) : AW G p l e R s m args below meth c bc bs Qf pc env (vR b :: vR a :: st) h :=
  put_core (h' := sfR h a k (some b)) C I hk hw hfin hdg ha.1 ha.2 rfl agr_sfR rfl (fun j hj r hr => fvr_sfR hj hr) (fun r hr => by
    have := ab_ref hr
    subst this
    have hz : narrow (vwTy ci k) (.ref b) = .ref b ∧ fits (vwTy ci k) (.ref b) = true := by
      generalize vwTy ci k = t at hty
      cases t <;> simp [isRefTy] at hty <;> exact ⟨rfl, rfl⟩
    refine ⟨hz.1, hz.2, ?_⟩
    rw [fvr_ref hty, sfR_s]; rfl) kk
theorem aw_iald (C : CF G p s m args meth c cc own) (hdg : decode cc pc = .ok (.iaload, 1)) {a n : Nat} {i : Int} (ha : hkd h a = (1, n) ∧ 0 ≤ i ∧ i < (n : Int)) (kk : AW G p l e R s m args below meth c bc bs Qf (pc + 1) env (vI (haI h a i) :: st) h) : AW G p l e R s m args below meth c bc bs Qf pc env (vI i :: vR a :: st) h := by
  intro ls rs H locs hL hS hR hf
  obtain ⟨x, rs1, rfl, rfl, hS1⟩ := hS.int
  obtain ⟨rs2, rfl, hS2⟩ := hS1.ref
  obtain ⟨cell, c1, c2, c3, c4, c5, c6⟩ := (hR.2.2.2.2 a).arrI ha.1
  obtain ⟨d1, d2, d3⟩ := xclamp ha.2.1 ha.2.2
  obtain ⟨y, y1, y2⟩ := c6 _ d2
  rw [d3] at y2
  exact W.iald C.1 C.2.1 c1 c2 c3 (by rw [c4]; exact d1) y1 rfl rfl hdg (kk ls _ H locs hL (hS2.cons (by rw [← y2]; rfl)) hR hf)
theorem aw_lald (C : CF G p s m args meth c cc own) (hdg : decode cc pc = .ok (.laload, 1)) {a n : Nat} {i : Int} (ha : hkd h a = (2, n) ∧ 0 ≤ i ∧ i < (n : Int)) (kk : AW G p l e R s m args below meth c bc bs Qf (pc + 1) env (vL (haL h a i) :: st) h) : AW G p l e R s m args below meth c bc bs Qf pc env (vI i :: vR a :: st) h := by
  intro ls rs H locs hL hS hR hf
  obtain ⟨x, rs1, rfl, rfl, hS1⟩ := hS.int
  obtain ⟨rs2, rfl, hS2⟩ := hS1.ref
  obtain ⟨cell, c1, c2, c3, c4, c5, c6⟩ := (hR.2.2.2.2 a).arrL ha.1
  obtain ⟨d1, d2, d3⟩ := xclamp ha.2.1 ha.2.2
  have y1 := c6 _ d2
  rw [d3] at y1
  exact W.lald C.1 C.2.1 c1 c2 c3 (by rw [c4]; exact d1) y1 rfl rfl hdg (kk ls _ H locs hL (hS2.cons rfl) hR hf)
theorem aw_aald (C : CF G p s m args meth c cc own) (hdg : decode cc pc = .ok (.aaload, 1)) {a n b : Nat} {i : Int} (ha : hkd h a = (3, n) ∧ 0 ≤ i ∧ i < (n : Int)) (hb : haR h a i = some b) (kk : AW G p l e R s m args below meth c bc bs Qf (pc + 1) env (vR b :: st) h) : AW G p l e R s m args below meth c bc bs Qf pc env (vI i :: vR a :: st) h := by
  intro ls rs H locs hL hS hR hf
  obtain ⟨x, rs1, rfl, rfl, hS1⟩ := hS.int
  obtain ⟨rs2, rfl, hS2⟩ := hS1.ref
  obtain ⟨cA, f, c1, c2, c3, c5, c6⟩ := (hR.2.2.2.2 a).arrR ha.1
  obtain ⟨d1, d2, d3⟩ := xclamp ha.2.1 ha.2.2
  have y1 := c6 _ d2
  rw [d3, hb] at y1
  exact W.aald (v := .ref b) (ty := .object RX4) C.1 C.2.1 c1 (c2 n _) rfl (fun q => by cases q) (by rw [arrV_size]; exact d1) (by rw [arrV_read _ _ d2, y1]; rfl) rfl rfl hdg (kk ls _ H locs hL (hS2.cons rfl) hR hf)
theorem aw_alen (C : CF G p s m args meth c cc own) (hdg : decode cc pc = .ok (.arraylength, 1)) {a n : Nat} (ha : hkd h a = (1, n)) (kk : AW G p l e R s m args below meth c bc bs Qf (pc + 1) env (vI (n : Int) :: st) h) : AW G p l e R s m args below meth c bc bs Qf pc env (vR a :: st) h := by
  intro ls rs H locs hL hS hR hf
  obtain ⟨rs2, rfl, hS2⟩ := hS.ref
  obtain ⟨cell, c1, c2, c3, c4, c5, c6⟩ := (hR.2.2.2.2 a).arrI ha
  refine W.alen (n := Int32.ofNat n) C.1 C.2.1 c1 c2 (by rw [c4]) rfl rfl hdg (kk ls _ H locs hL (hS2.cons ?_) hR hf)
  show some (vI (Int32.ofNat n).toInt) = _
  rw [show (Int32.ofNat n).toInt = (n : Int) from nI_toInt c5]
theorem agr_saI {h : AH} {a : Nat} {f : Int → Int} : ∀ q, q ≠ a → agr h (saI h a f) q := fun q hq => ⟨rfl, rfl, rfl, rfl, u0_n hq, rfl, rfl⟩
theorem agr_saL {h : AH} {a : Nat} {f : Int → Int64} : ∀ q, q ≠ a → agr h (saL h a f) q := fun q hq => ⟨rfl, rfl, rfl, rfl, rfl, rfl, u0_n hq⟩
theorem agr_saR {h : AH} {a : Nat} {f : Int → Option Nat} : ∀ q, q ≠ a → agr h (saR h a f) q := fun q hq => ⟨rfl, rfl, rfl, rfl, rfl, u0_n hq, rfl⟩
theorem saI_s {h : AH} {a : Nat} {f : Int → Int} : haI (saI h a f) a = f := u0_s
theorem saL_s {h : AH} {a : Nat} {f : Int → Int64} : haL (saL h a f) a = f := u0_s
theorem saR_s {h : AH} {a : Nat} {f : Int → Option Nat} : haR (saR h a f) a = f := u0_s
theorem slot_set {cell : Cell} {i j : Nat} {v : Value} (hi : i < cell.slots.size) : (cell.setSlot i v).slots[j]? = if j = i then some v else cell.slots[j]? := by
  by_cases h : j = i
  · subst h; simp [Cell.setSlot, hi]
  · rw [if_neg h]; simp [Cell.setSlot, Array.getElem?_setIfInBounds, Ne.symm h]
theorem lo_add {locs : List Loc} {lo a k : Nat} (hf : ∀ q ∈ locs, lo ≤ q.base) (h : lo ≤ a) : ∀ q ∈ locs ++ [(⟨a, k⟩ : Loc)], lo ≤ q.base := by
  intro q hq
  rcases List.mem_append.mp hq with hq | hq
  · exact hf q hq
  · rw [List.mem_singleton.mp hq]; exact h
theorem aw_iast (C : CF G p s m args meth c cc own) (hdg : decode cc pc = .ok (.iastore, 1)) {a n : Nat} {i v : Int} (ha : hkd h a = (1, n) ∧ 0 ≤ i ∧ i < (n : Int) ∧ hlo h ≤ a) (kk : AW G p l e R s m args below meth c bc bs Qf (pc + 1) env st (saI h a (u1 (haI h a) i v))) : AW G p l e R s m args below meth c bc bs Qf pc env (vI v :: vI i :: vR a :: st) h := by
  intro ls rs H locs hL hS hR hf
  obtain ⟨y, rs0, rfl, rfl, hS0⟩ := hS.int
  obtain ⟨x, rs1, rfl, rfl, hS1⟩ := hS0.int
  obtain ⟨rs2, rfl, hS2⟩ := hS1.ref
  obtain ⟨cell, c1, c2, c3, c4, c5, c6⟩ := (hR.2.2.2.2 a).arrI ha.1
  obtain ⟨d1, d2, d3⟩ := xclamp ha.2.1 ha.2.2.1
  refine W.iast C.1 C.2.1 c1 c2 c3 (by rw [c4]; exact d1) rfl rfl hdg fun H' g1 g2 g3 => kk ls _ H' _ hL hS2 (hR.upd g2 g3 ha.2.2.2 rfl agr_saI ?_) (lo_add hf (by rw [← hR.1]; exact ha.2.2.2))
  unfold RC
  rw [show hkd (saI h a (u1 (haI h a) x.toInt y.toInt)) a = (1, n) from ha.1]
  refine ⟨_, g1, c2, c3, by rw [k2_slotsz]; exact c4, c5, fun j hj => ?_⟩
  rw [slot_set (by rw [c4]; exact d2), saI_s]
  by_cases hji : j = x.toNatClampNeg
  · rw [if_pos hji]
    refine ⟨y, rfl, ?_⟩
    rw [show ((j : Nat) : Int) = x.toInt by rw [hji]; exact d3, u1_s]
  · rw [if_neg hji]
    obtain ⟨z, z1, z2⟩ := c6 j hj
    exact ⟨z, z1, by rw [u1_n (by omega)]; exact z2⟩
theorem aw_last (C : CF G p s m args meth c cc own) (hdg : decode cc pc = .ok (.lastore, 1)) {a n : Nat} {i : Int} {v : Int64} (ha : hkd h a = (2, n) ∧ 0 ≤ i ∧ i < (n : Int) ∧ hlo h ≤ a) (kk : AW G p l e R s m args below meth c bc bs Qf (pc + 1) env st (saL h a (u1 (haL h a) i v))) : AW G p l e R s m args below meth c bc bs Qf pc env (vL v :: vI i :: vR a :: st) h := by
  intro ls rs H locs hL hS hR hf
  obtain ⟨rs0, rfl, hS0⟩ := hS.long
  obtain ⟨x, rs1, rfl, rfl, hS1⟩ := hS0.int
  obtain ⟨rs2, rfl, hS2⟩ := hS1.ref
  obtain ⟨cell, c1, c2, c3, c4, c5, c6⟩ := (hR.2.2.2.2 a).arrL ha.1
  obtain ⟨d1, d2, d3⟩ := xclamp ha.2.1 ha.2.2.1
  refine W.last C.1 C.2.1 c1 c2 c3 (by rw [c4]; exact d1) rfl rfl hdg fun H' g1 g2 g3 => kk ls _ H' _ hL hS2 (hR.upd g2 g3 ha.2.2.2 rfl agr_saL ?_) (lo_add hf (by rw [← hR.1]; exact ha.2.2.2))
  unfold RC
  rw [show hkd (saL h a (u1 (haL h a) x.toInt v)) a = (2, n) from ha.1]
  refine ⟨_, g1, c2, c3, by rw [k2_slotsz]; exact c4, c5, fun j hj => ?_⟩
  rw [slot_set (by rw [c4]; exact d2), saL_s]
  by_cases hji : j = x.toNatClampNeg
  · rw [if_pos hji, show ((j : Nat) : Int) = x.toInt by rw [hji]; exact d3, u1_s]
  · rw [if_neg hji, u1_n (by omega)]
    exact c6 j hj
theorem aw_aast (C : CF G p s m args meth c cc own) (hdg : decode cc pc = .ok (.aastore, 1)) {a n b : Nat} {i : Int} (ha : hkd h a = (3, n) ∧ 0 ≤ i ∧ i < (n : Int) ∧ hlo h ≤ a) (hb : (hkd h b).1 = 8) (kk : AW G p l e R s m args below meth c bc bs Qf (pc + 1) env st (saR h a (u1 (haR h a) i (some b)))) : AW G p l e R s m args below meth c bc bs Qf pc env (vR b :: vI i :: vR a :: st) h := by
  intro ls rs H locs hL hS hR hf
  obtain ⟨rs0, rfl, hS0⟩ := hS.ref
  obtain ⟨x, rs1, rfl, rfl, hS1⟩ := hS0.int
  obtain ⟨rs2, rfl, hS2⟩ := hS1.ref
  obtain ⟨cA, f, c1, c2, c3, c5, c6⟩ := (hR.2.2.2.2 a).arrR ha.1
  obtain ⟨d1, d2, d3⟩ := xclamp ha.2.1 ha.2.2.1
  obtain ⟨V, ⟨cellV, v1, v2, v3, -⟩, -⟩ := (hR.2.2.2.2 b).obj ci4 hb
  have hcls := (C.2.2.2.2.2.1.1 4 _ ci4.1).2
  obtain ⟨kA, comp, k1, k2, k3, -⟩ := id c3
  have hcomp : comp = G.1.1 4 := Option.some.inj (k3.symm.trans hcls.1)
  subst hcomp
  obtain ⟨kC, hkC, -⟩ := hcls.2
  refine W.aast C.1 C.2.1 c1 (fun q h => by cases h) (fun h => by cases h) k1 k2 rfl hkC ⟨fun q => d1 (Or.inl q), by rw [arrV_size]; exact d2⟩ v1 (fun q h => by rw [v3] at h; cases h) (by rw [v2]; exact hkC) (by rw [v2]; exact va_assign hcls) rfl rfl hdg fun H' g1 g2 g3 => kk ls _ H' _ hL hS2 (hR.upd g2 g3 ha.2.2.2 rfl agr_saR ?_) (lo_add hf (by rw [← hR.1]; exact ha.2.2.2))
  unfold RC
  rw [show hkd (saR h a (u1 (haR h a) x.toInt (some b))) a = (3, n) from ha.1]
  refine ⟨cA, fun j => if j = x.toNatClampNeg then some b else f j, ?_, c2, c3, c5, fun j hj => ?_⟩
  · rw [g1, arrV_store]
    congr 2
    funext j
    by_cases hji : j = x.toNatClampNeg
    · simp [updV, hji, va_rf]
    · simp [updV, hji]
  · rw [saR_s]
    show (if j = x.toNatClampNeg then some b else f j) = _
    by_cases hji : j = x.toNatClampNeg
    · rw [if_pos hji, show ((j : Nat) : Int) = x.toInt by rw [hji]; exact d3, u1_s]
    · rw [if_neg hji, u1_n (by omega)]
      exact c6 j hj
theorem agr_nAI {h : AH} {n : Nat} : ∀ q, q ≠ hn h → agr h (nAI h n) q := fun q hq => ⟨u0_n hq, rfl, rfl, rfl, u0_n hq, rfl, rfl⟩
theorem agr_nAL {h : AH} {n : Nat} : ∀ q, q ≠ hn h → agr h (nAL h n) q := fun q hq => ⟨u0_n hq, rfl, rfl, rfl, rfl, rfl, u0_n hq⟩
theorem agr_nAR {h : AH} {n : Nat} : ∀ q, q ≠ hn h → agr h (nAR h n) q := fun q hq => ⟨u0_n hq, rfl, rfl, rfl, rfl, u0_n hq, rfl⟩
theorem agr_nOb {h : AH} {n : Nat} : ∀ q, q ≠ hn h → agr h (nOb h n) q := fun q hq => ⟨u0_n hq, u0_n hq, u0_n hq, u0_n hq, rfl, rfl, rfl⟩
theorem aw_newI (C : CF G p s m args meth c cc own) (hw : Cond.arrayClass .int ∈ xTb) (hdg : decode cc pc = .ok (.newarray .int, 2)) {n : Nat} (hn1 : n ≤ 100000) (hcells : bc + 1 ≤ R.cells) (hslots : bs + n ≤ R.slots) (kk : AW G p l e R s m args below meth c (bc + 1) (bs + n) Qf (pc + 2) env (vR (hn h) :: st) (nAI h n)) : AW G p l e R s m args below meth c bc bs Qf pc env (vI (n : Int) :: st) h := by
  intro ls rs H locs hL hS hR hf
  obtain ⟨x, rs1, rfl, e1, hS1⟩ := hS.int
  have e2 : x.toNatClampNeg = n := by show x.toInt.toNat = n; omega
  refine W.newaK (atype := .int) C.1 C.2.1 (C.2.2.2.1 _ hw) rfl hdg rfl (by rw [toInt_lt0]; omega) e2 (by show n * 4 ≤ _; omega) hcells hslots hR.2.1.symm fun H' cA g1 g2 g3 g4 => ?_
  refine kk ls _ H' locs hL (hS1.cons rfl) (hR.new (by rw [g2, hR.2.1]) (fun q hq => g3 q (by rw [hR.2.1]; exact hq)) rfl agr_nAI ?_) hf
  unfold RC
  rw [show hkd (nAI h n) (hn h) = (1, n) from u0_s]
  refine ⟨_, g1, g4 n _, (fun q => by cases q), arrV_size _ _ _, by omega, fun j hj => ⟨0, arrV_read _ _ hj, ?_⟩⟩
  rw [show haI (nAI h n) (hn h) = fun _ => 0 from u0_s]; rfl
theorem aw_newL (C : CF G p s m args meth c cc own) (hw : Cond.arrayClass .long ∈ xTb) (hdg : decode cc pc = .ok (.newarray .long, 2)) {n : Nat} (hn1 : n ≤ 100000) (hcells : bc + 1 ≤ R.cells) (hslots : bs + n ≤ R.slots) (kk : AW G p l e R s m args below meth c (bc + 1) (bs + n) Qf (pc + 2) env (vR (hn h) :: st) (nAL h n)) : AW G p l e R s m args below meth c bc bs Qf pc env (vI (n : Int) :: st) h := by
  intro ls rs H locs hL hS hR hf
  obtain ⟨x, rs1, rfl, e1, hS1⟩ := hS.int
  have e2 : x.toNatClampNeg = n := by show x.toInt.toNat = n; omega
  refine W.newaK (atype := .long) C.1 C.2.1 (C.2.2.2.1 _ hw) rfl hdg rfl (by rw [toInt_lt0]; omega) e2 (by show n * 8 ≤ _; omega) hcells hslots hR.2.1.symm fun H' cA g1 g2 g3 g4 => ?_
  refine kk ls _ H' locs hL (hS1.cons rfl) (hR.new (by rw [g2, hR.2.1]) (fun q hq => g3 q (by rw [hR.2.1]; exact hq)) rfl agr_nAL ?_) hf
  unfold RC
  rw [show hkd (nAL h n) (hn h) = (2, n) from u0_s]
  refine ⟨_, g1, g4 n _, (fun q => by cases q), arrV_size _ _ _, by omega, fun j hj => ?_⟩
  rw [arrV_read _ _ hj, show haL (nAL h n) (hn h) = fun _ => 0 from u0_s]; rfl
theorem aw_newR (C : CF G p s m args meth c cc own) {idx : Nat} (hw : Cond.classLink own idx RX4 ∈ xTb) (hw2 : Cond.arrayOver (.object RX4) ∈ xTb) (hdg : decode cc pc = .ok (.anewarray idx, 3)) {n : Nat} (hn1 : n ≤ 100000) (hcells : bc + 1 ≤ R.cells) (hslots : bs + n ≤ R.slots) (kk : AW G p l e R s m args below meth c (bc + 1) (bs + n) Qf (pc + 3) env (vR (hn h) :: st) (nAR h n)) : AW G p l e R s m args below meth c bc bs Qf pc env (vI (n : Int) :: st) h := by
  intro ls rs H locs hL hS hR hf
  obtain ⟨x, rs1, rfl, e1, hS1⟩ := hS.int
  have e2 : x.toNatClampNeg = n := by show x.toInt.toNat = n; omega
  refine W.anew C.1 C.2.1 C.2.2.1 (C.2.2.2.1 _ hw) (C.2.2.2.1 _ hw2) rfl hdg rfl (by rw [toInt_lt0]; omega) (by rw [e2]; omega) hcells (by rw [e2]; exact hslots) fun cA kA comp f1 f2 f3 f4 => ?_
  rw [e2, ← hR.2.1]
  refine kk ls _ _ locs hL (hS1.cons rfl) (hR.new (by rw [Array.size_push]) (fun q hq => by rw [Array.getElem?_push, if_neg (Nat.ne_of_lt hq)]) rfl agr_nAR ?_) hf
  unfold RC
  rw [show hkd (nAR h n) (hn h) = (3, n) from u0_s]
  refine ⟨cA, fun _ => none, ?_, fun N z => ⟨(fun k h => by cases h), kA, f2, comp, f3⟩, ⟨kA, comp, f2, f3, f4, f1⟩, by omega, fun j hj => ?_⟩
  · rw [hR.2.1, Array.getElem?_push_size, ← arrV_new]; rfl
  · rw [show haR (nAR h n) (hn h) = fun _ => none from u0_s]
def okTy (t : FieldType) : Bool := match t with
  | .int => true
  | .boolean => true
  | .long => true
  | .object _ => true
  | .array _ => true
  | _ => false
theorem aw_new (C : CF G p s m args meth c cc own) {ci idx : Nat} {Cn : String} {T : u_T} {N : Nat} (I : CI ci Cn T N) (hw : Cond.classLink own idx Cn ∈ xTb) (hw2 : Cond.instantiable Cn N ∈ xTb) (hw3 : Cond.initialized Cn ∈ xTb) (hok : ∀ k, k < N → okTy (vwTy ci k) = true) (hdg : decode cc pc = .ok (.new idx, 3)) (hcells : bc + 1 ≤ R.cells) (hslots : bs + N ≤ R.slots) (kk : AW G p l e R s m args below meth c (bc + 1) (bs + N) Qf (pc + 3) env (vR (hn h) :: st) (nOb h ci)) : AW G p l e R s m args below meth c bc bs Qf pc env st h := by
  intro ls rs H locs hL hS hR hf
  have hKn := C.2.2.2.2.2.1.1 ci _ I.1
  refine W.newcK C.1 C.2.1 C.2.2.1 (C.2.2.2.1 _ hw) (C.2.2.2.1 _ hw2) (C.2.2.2.1 _ hw3) rfl hdg hcells hslots hKn.2.1 hR.2.1.symm fun H' kC g0 g1 g2 g3 => ?_
  refine kk ls _ H' locs hL (hS.cons rfl) (hR.new (by rw [g2, hR.2.1]) (fun q hq => g3 q (by rw [hR.2.1]; exact hq)) rfl agr_nOb ?_) hf
  refine RC.ofObj I (by rw [show hkd (nOb h ci) (hn h) = (ci + 4, 0) from u0_s]) (u_born (vwTy ci) C.2.2.2.1 I.2.1 hKn g0 g1 I.2.2.1) (fun k hk => ?_)
  unfold fvr
  rw [show hfI (nOb h ci) (hn h) = fun _ => 0 from u0_s, show hfR (nOb h ci) (hn h) = fun _ => none from u0_s, show hfL (nOb h ci) (hn h) = fun _ => 0 from u0_s]
  have hk2 := hok k hk
  generalize vwTy ci k = t at hk2 ⊢
  cases t <;> first | rfl | exact ⟨0, rfl, rfl⟩ | (simp [okTy] at hk2)
end AWH
end
section
/-! STATICS, MATH, COPIES, CALLS, METHODS -/
theorem good_all : GoodIn xTb xTb := fun w h => ⟨h, good_of_word (List.mem_filter.mp h).2⟩
def PcA (G : GG) (As : List Value) (h : AH) : Array Value → State → Prop := fun v U => v = As.toArray ∧ Rel U G.1 G.2.1 h U.heap ∧ va_K G.1 vwCl [] U ∧ ZF U G.2.1 G.2.2 ∧ NF U
def frA (G : GG) : Addr → Prop := fun q => G.2.1.size ≤ q
def QG (G : GG) (Q : Option AV → AH → Prop) : Array Value → State → Outcome → State → Prop := fun _ _ o t => ∃ (r : Option Value) (v : Option AV) (h' : AH), o = .returned r ∧ r.map ab = v.map some ∧ Q v h' ∧ Rel t G.1 G.2.1 h' t.heap
def oI (Q : Int → AH → Prop) : Option AV → AH → Prop := fun v h => ∃ i, v = some (vI i) ∧ Q i h
def oR (Q : Nat → AH → Prop) : Option AV → AH → Prop := fun v h => ∃ i, v = some (vR i) ∧ Q i h
def oL (Q : Int64 → AH → Prop) : Option AV → AH → Prop := fun v h => ∃ i, v = some (vL i) ∧ Q i h
def oD (Q : UInt64 → AH → Prop) : Option AV → AH → Prop := fun v h => ∃ i, v = some (vD i) ∧ Q i h
def oV (Q : AH → Prop) : Option AV → AH → Prop := fun v h => v = none ∧ Q h
/-- a join: the rest once, its entries many -/
def jn {α : Type} (K : α) (B : α → Prop) : Prop := B K
def cpI (f g : Int → Int) (sp dp n : Int) : Int → Int := fun j => if dp ≤ j ∧ j < dp + n then f (sp + (j - dp)) else g j
theorem envOf_in {as : List AV} : ∀ {As : List Value} {k i : Nat} {v : AV}, As.map ab = as.map some → envOf k as i = some v → ∃ r, (i, r) ∈ lv_args k As ∧ ab r = some v := by
  induction as with
  | nil => intro As k i v _ h; cases h
  | cons a as ih =>
    intro As k i v hA h
    cases As with
    | nil => simp at hA
    | cons A As =>
      simp only [List.map_cons, List.cons.injEq] at hA
      obtain ⟨h1, h2⟩ := hA
      unfold envOf at h
      unfold lv_args
      split at h
      next e => subst e; cases h; exact ⟨A, List.mem_cons_self, h1⟩
      next e =>
        have e2 : (if A.category = 2 then k + 2 else k + 1) = k + acat a := by
          rw [ab_cat h1]
          have : acat a = 1 ∨ acat a = 2 := by
            rcases a with _ | _ | _ <;> simp [acat]
          rcases this with q | q <;> simp [q]
        rw [e2]
        obtain ⟨r, r1, r2⟩ := ih h2 h
        exact ⟨r, List.mem_cons_of_mem _ r1, r2⟩
theorem sl_len {as : List AV} : ∀ {As : List Value}, As.map ab = as.map some → (lg_sl As).length = (as.map acat).sum := by
  induction as with
  | nil => intro As h; simp at h; subst h; rfl
  | cons a as ih =>
    intro As hA
    cases As with
    | nil => simp at hA
    | cons A As =>
      simp only [List.map_cons, List.cons.injEq] at hA
      obtain ⟨h1, h2⟩ := hA
      have e1 : acat a = A.category := (ab_cat h1).symm
      have e2 := ih h2
      unfold lg_sl at e2 ⊢
      rw [List.flatMap_cons, List.length_append, e2, List.map_cons, List.sum_cons, e1]
      congr 1
      rcases lv_cat A with q | q <;> simp [q]
theorem met_of {G : GG} {l : Launch} {y : MethodName} {cc : ByteArray} {maxL : Nat} {ret : Option FieldType} {rm : Room} {mc ms : Nat} {as : List AV} {As : List Value} {h : AH} {Q : Option AV → AH → Prop} (hA : As.map ab = as.map some) (hy : plainName y.cls = true) (hlen : (as.map acat).sum ≤ maxL)
    (body : ∀ (p : Program) (e : Env) (s : State) (m : MethodId) (args : Array Value) (below : List Frame) (meth : Method) (c : Code), CF G p s m args meth c cc y.cls → c.maxLocals = maxL → meth.sig.returnType = ret → meth.name = y.name → AW G p l e rm s m args below meth c 0 0 (MQ below (QG G Q) args s mc ms (frA G)) 0 (envOf 0 as) [] h) :
    Met l y (.code y cc maxL ret :: xTb) rm (PcA G As h) (QG G Q) mc ms (frA G) := by
  refine MetFree.of_bodyS (code := cc) (maxLocals := maxL) (ret := ret) hy ?_ ?_
  · intro args s m h hn
    obtain ⟨meth, c, h1, h2, h3, h4, h5, h6, -, -⟩ := Cond.code_spec hn (atoms_spec (ws := .code y cc maxL ret :: xTb) h _ List.mem_cons_self)
    exact ⟨meth, c, h1, h2, h3, h4, h5, h6⟩
  · intro p e s m args below meth c s₁ B hml hP _
    have hh0 : s₁.heap = s.heap := by rw [B.state]; rfl
    obtain ⟨rfl, hrel, hK, hZ, hN⟩ := hP
    have hts := atoms_spec (ws := .code y cc maxL ret :: xTb) B.pre
    have C : CF G p s m As.toArray meth c cc y.cls := ⟨B.exec, B.bytes, findClass_of_methodNamed B.named, fun w hw => hts w (List.mem_cons_of_mem _ hw), B.notSynchronized, hK, hZ, hN⟩
    have hE := lv_entry As (n := maxL) (by rw [sl_len hA]; exact hlen)
    have K := body p e s m As.toArray below meth c C hml B.returns (name_of_methodNamed B.named B.method).1 ((lg_sl As ++ List.replicate (maxL - (lg_sl As).length) Slot.unset).toArray) [] s.heap [] ⟨hE.2.1, by rw [hml]; exact hE.1, fun i v hi => by
      obtain ⟨r, r1, r2⟩ := envOf_in hA hi
      exact ⟨r, hE.2.2 (i, r) r1, r2⟩⟩ SR.nil hrel (fun q hq => by cases hq)
    have K2 : W p l e (headSpec (.code y cc maxL ret :: xTb) rm).room s m As.toArray below meth c s.heap [] 0 0 (MQ below (QG G Q) As.toArray s mc ms (frA G)) (entryFrame m As.toArray maxL) := by
      rw [lg_entry_eq]; exact K
    obtain ⟨t, a1, o, b1, b2, b3⟩ := K2 s₁ hh0 (Stand.of_body B)
    exact ⟨t, o, a1, b1, b2, ⟨b3.1, b3.2⟩⟩
section AWC
variable {G : GG} {p : Program} {l : Launch} {e : Env} {R : Room} {s : State} {m : MethodId} {args : Array Value} {below : List Frame} {meth : Method} {c : Code} {bc bs : Nat} {Qf : State → Prop} {cc : ByteArray} {own : String}
variable {pc : Nat} {env : Nat → Option AV} {st : List AV} {h : AH}
theorem aw_gets (C : CF G p s m args meth c cc own) {idx v : Nat} {n : String} (hZ : va_Z "TextMorph" n "[I" (.ref v) (fun q => G.2.1.size ≤ q) s G.2.1) (hw : Cond.fieldLink own idx "TextMorph" n "[I" ∈ xTb) (hdg : decode cc pc = .ok (.getstatic idx, 3)) (kk : AW G p l e R s m args below meth c bc bs Qf (pc + 3) env (vR v :: st) h) : AW G p l e R s m args below meth c bc bs Qf pc env st h := by
  intro ls rs H locs hL hS hR hf
  obtain ⟨cf, kf, fi, f, a, cell, h1, h2, h3, h4, h5, h6, h7, h8⟩ := hZ
  exact W.gets C.1 C.2.1 C.2.2.1 (C.2.2.2.1 _ hw) h1 h2 h3 h4 (by rw [hR.2.2.2.1 a (Nat.not_le.mp h8)]; exact h5) (fun e => by rw [e] at h6; cases h6) h7 rfl hdg (kk ls _ H locs hL (hS.cons rfl) hR hf)
theorem aw_getsN (C : CF G p s m args meth c cc own) {idx v : Nat} {n host : String} (hZ : va_Z "TextMorph" n "[I" (.ref v) (fun q => G.2.1.size ≤ q) s G.2.1) (hw : nwF = Cond.fieldLinkNest own idx "TextMorph" n "[I" host) (hdg : decode cc pc = .ok (.getstatic idx, 3)) (kk : AW G p l e R s m args below meth c bc bs Qf (pc + 3) env (vR v :: st) h) : AW G p l e R s m args below meth c bc bs Qf pc env st h := by
  intro ls rs H locs hL hS hR hf
  obtain ⟨cf, kf, fi, f, a, cell, h1, h2, h3, h4, h5, h6, h7, h8⟩ := hZ
  exact va_WgetsN C.1 C.2.1 C.2.2.1 (by rw [← hw]; exact va_Nw.use rfl C.2.2.2.2.2.2.2.2) h1 h2 h3 h4 (by rw [hR.2.2.2.1 a (Nat.not_le.mp h8)]; exact h5) (fun e => by rw [e] at h6; cases h6) h7 rfl hdg (kk ls _ H locs hL (hS.cons rfl) hR hf)
theorem aw_mmax (C : CF G p s m args meth c cc own) {idx : Nat} (hw : Cond.methodLink own idx Lib.Math.max.name ∈ xTb) (hw2 : Cond.static Lib.Math.max.name ∈ xTb) (hw3 : Cond.initialized "java/lang/Math" ∈ xTb) (hw4 : Cond.code Lib.Math.max.name Lib.Math.max.code 2 (some .int) ∈ xTb) (hR1 : 1 ≤ R.frames ∧ 21 ≤ R.locals ∧ bc ≤ R.cells ∧ bs ≤ R.slots) (hr : (st.map acat).sum ≤ 8) (hdg : decode cc pc = .ok (.invokestatic idx, 3)) {a b : Int} (kk : AW G p l e R s m args below meth c bc bs Qf (pc + 3) env (vI (if a < b then b else a) :: st) h) : AW G p l e R s m args below meth c bc bs Qf pc env (vI b :: vI a :: st) h := by
  intro ls rs H locs hL hS hR hf
  obtain ⟨y, rs0, rfl, rfl, hS0⟩ := hS.int
  obtain ⟨x, rs1, rfl, rfl, hS1⟩ := hS0.int
  refine va_mmax C.1 C.2.1 hL.2.1.symm C.2.2.1 (C.2.2.2.1 _ hw) (C.2.2.2.1 _ hw2) (C.2.2.2.1 _ hw3) (C.2.2.2.1 _ hw4) hR1.1 (by rw [hS1.sum]; omega) hR1.2.2.1 hR1.2.2.2 hdg (kk ls _ H locs hL (hS1.cons ?_) hR hf)
  by_cases q : x < y
  · rw [if_pos q, if_pos (toInt_lt.mp q)]; rfl
  · rw [if_neg q, if_neg (fun z => q (toInt_lt.mpr z))]; rfl
theorem aw_mmin (C : CF G p s m args meth c cc own) {idx : Nat} (hw : Cond.methodLink own idx Lib.Math.min.name ∈ xTb) (hw2 : Cond.static Lib.Math.min.name ∈ xTb) (hw3 : Cond.initialized "java/lang/Math" ∈ xTb) (hw4 : Cond.code Lib.Math.min.name Lib.Math.min.code 2 (some .int) ∈ xTb) (hR1 : 1 ≤ R.frames ∧ 21 ≤ R.locals ∧ bc ≤ R.cells ∧ bs ≤ R.slots) (hr : (st.map acat).sum ≤ 8) (hdg : decode cc pc = .ok (.invokestatic idx, 3)) {a b : Int} (kk : AW G p l e R s m args below meth c bc bs Qf (pc + 3) env (vI (if b < a then b else a) :: st) h) : AW G p l e R s m args below meth c bc bs Qf pc env (vI b :: vI a :: st) h := by
  intro ls rs H locs hL hS hR hf
  obtain ⟨y, rs0, rfl, rfl, hS0⟩ := hS.int
  obtain ⟨x, rs1, rfl, rfl, hS1⟩ := hS0.int
  refine va_mmin C.1 C.2.1 hL.2.1.symm C.2.2.1 (C.2.2.2.1 _ hw) (C.2.2.2.1 _ hw2) (C.2.2.2.1 _ hw3) (C.2.2.2.1 _ hw4) hR1.1 (by rw [hS1.sum]; omega) hR1.2.2.1 hR1.2.2.2 hdg (kk ls _ H locs hL (hS1.cons ?_) hR hf)
  by_cases q : y < x
  · rw [if_pos q, if_pos (toInt_lt.mp q)]; rfl
  · rw [if_neg q, if_neg (fun z => q (toInt_lt.mpr z))]; rfl
theorem aw_mabs (C : CF G p s m args meth c cc own) {idx : Nat} (hw : Cond.methodLink own idx Lib.Math.abs.name ∈ xTb) (hw2 : Cond.static Lib.Math.abs.name ∈ xTb) (hw3 : Cond.initialized "java/lang/Math" ∈ xTb) (hw4 : Cond.code Lib.Math.abs.name Lib.Math.abs.code 1 (some .int) ∈ xTb) (hR1 : 1 ≤ R.frames ∧ 21 ≤ R.locals ∧ bc ≤ R.cells ∧ bs ≤ R.slots) (hr : (st.map acat).sum ≤ 8) (hdg : decode cc pc = .ok (.invokestatic idx, 3)) {a : Int} (ha : inR (0 - a)) (kk : AW G p l e R s m args below meth c bc bs Qf (pc + 3) env (vI (if 0 ≤ a then a else 0 - a) :: st) h) : AW G p l e R s m args below meth c bc bs Qf pc env (vI a :: st) h := by
  intro ls rs H locs hL hS hR hf
  obtain ⟨x, rs1, rfl, rfl, hS1⟩ := hS.int
  refine va_mabs C.1 C.2.1 hL.2.1.symm C.2.2.1 (C.2.2.2.1 _ hw) (C.2.2.2.1 _ hw2) (C.2.2.2.1 _ hw3) (C.2.2.2.1 _ hw4) hR1.1 (by rw [hS1.sum]; omega) hR1.2.2.1 hR1.2.2.2 hdg (kk ls _ H locs hL (hS1.cons ?_) hR hf)
  by_cases q : 0 ≤ x
  · rw [if_pos q, if_pos (toInt_ge0.mp q)]; rfl
  · rw [if_neg q, if_neg (fun z => q (toInt_ge0.mpr z))]
    show some (vI (0 - x).toInt) = _
    rw [inR_sub (show inR ((0 : Int32).toInt - x.toInt) from ha)]; rfl
theorem aw_d2raw (C : CF G p s m args meth c cc own) {idx : Nat} (hw : Cond.methodLink own idx ⟨"java/lang/Double", "doubleToRawLongBits", "(D)J"⟩ ∈ xTb) (hw2 : Cond.native ⟨"java/lang/Double", "doubleToRawLongBits", "(D)J"⟩ ∈ xTb) (hw3 : Cond.static ⟨"java/lang/Double", "doubleToRawLongBits", "(D)J"⟩ ∈ xTb) (hw4 : Cond.initialized "java/lang/Double" ∈ xTb) (hR1 : 1 ≤ R.frames ∧ 23 ≤ R.locals) (hr : (st.map acat).sum ≤ 8) (hdg : decode cc pc = .ok (.invokestatic idx, 3)) {a : UInt64} (kk : AW G p l e R s m args below meth c bc bs Qf (pc + 3) env (vL a.toInt64 :: st) h) : AW G p l e R s m args below meth c bc bs Qf pc env (vD a :: st) h := by
  intro ls rs H locs hL hS hR hf
  obtain ⟨rs1, rfl, hS1⟩ := hS.dbl
  exact vn_d2l C.1 C.2.1 hL.2.1.symm C.2.2.1 (C.2.2.2.1 _ hw) (C.2.2.2.1 _ hw2) (C.2.2.2.1 _ hw3) (C.2.2.2.1 _ hw4) hR1.1 (by rw [hS1.sum]; omega) hdg (kk ls _ H locs hL (hS1.cons rfl) hR hf)
theorem aw_copy (C : CF G p s m args meth c cc own) {idx : Nat} (hw : Cond.methodLink own idx arraycopyName ∈ xTb) (hw2 : Cond.native arraycopyName ∈ xTb) (hw3 : Cond.static arraycopyName ∈ xTb) (hw4 : Cond.initialized "java/lang/System" ∈ xTb) (hR1 : 1 ≤ R.frames ∧ 40 ≤ R.locals) (hr : (st.map acat).sum ≤ 8) (hdg : decode cc pc = .ok (.invokestatic idx, 3)) {a b na nb : Nat} {sp dp n : Int} (ha : hkd h a = (1, na)) (hb : hkd h b = (1, nb) ∧ hlo h ≤ b) (hz : 0 ≤ sp ∧ 0 ≤ dp ∧ 0 ≤ n ∧ sp + n ≤ (na : Int) ∧ dp + n ≤ (nb : Int)) (kk : AW G p l e R s m args below meth c bc bs Qf (pc + 3) env st (saI h b (cpI (haI h a) (haI h b) sp dp n))) : AW G p l e R s m args below meth c bc bs Qf pc env (vI n :: vI dp :: vR b :: vI sp :: vR a :: st) h := by
  intro ls rs H locs hL hS hR hf
  obtain ⟨n', rs1, rfl, rfl, hS1⟩ := hS.int
  obtain ⟨dp', rs2, rfl, rfl, hS2⟩ := hS1.int
  obtain ⟨rs3, rfl, hS3⟩ := hS2.ref
  obtain ⟨sp', rs4, rfl, rfl, hS4⟩ := hS3.int
  obtain ⟨rs5, rfl, hS5⟩ := hS4.ref
  obtain ⟨ca, c1, c2, c3, c4, c5, c6⟩ := (hR.2.2.2.2 a).arrI ha
  obtain ⟨cb, d1, d2, d3, d4, d5, d6⟩ := (hR.2.2.2.2 b).arrI hb.1
  obtain ⟨z1, z2, z3, z4, z5⟩ := hz
  have es : ((sp'.toNatClampNeg : Nat) : Int) = sp'.toInt := by show ((sp'.toInt.toNat : Nat) : Int) = _; omega
  have ed : ((dp'.toNatClampNeg : Nat) : Int) = dp'.toInt := by show ((dp'.toInt.toNat : Nat) : Int) = _; omega
  have en : ((n'.toNatClampNeg : Nat) : Int) = n'.toInt := by show ((n'.toInt.toNat : Nat) : Int) = _; omega
  obtain ⟨o1, ka, hka, cma, hkka⟩ := c2
  obtain ⟨o2, kb, hkb, cmb, hkkb⟩ := id d2
  have hval : ∀ i, i < n'.toNatClampNeg → ∃ x : Int32, ca.slots.getD (sp'.toNatClampNeg + i) .null = .int x ∧ x.toInt = haI h a (sp'.toInt + (i : Int)) := by
    intro i hi
    obtain ⟨x, x1, x2⟩ := c6 (sp'.toNatClampNeg + i) (by omega)
    refine ⟨x, by rw [Array.getD_eq_getD_getElem?, x1]; rfl, ?_⟩
    rw [x2]; congr 1; omega
  intro T hT X
  obtain ⟨vm', X', step⟩ := X.arraycopy C.1 C.2.2.1 (C.2.2.2.1 _ hw) (C.2.2.2.1 _ hw2) (C.2.2.2.1 _ hw3) (C.2.2.2.1 _ hw4) (src := a) (dst := b) (cs := ca) (cd := cb) (srcPos := sp') (destPos := dp') (n := n') (by rw [hT]; exact c1) (by rw [hT]; exact d1) o1 o2 c3 d3 hka hkb hkka hkkb rfl
    (by rw [toInt_lt0]; omega) (by rw [toInt_lt0]; omega) (by rw [toInt_lt0]; omega) (by rw [c4]; omega) (by rw [d4]; omega)
    (fun vm₁ _ i hi => by
      obtain ⟨x, x1, -⟩ := hval i hi
      rw [x1]
      exact ⟨rfl, trivial⟩)
    (g := F0 m pc ls (.int n' :: .int dp' :: .ref b :: .int sp' :: .ref a :: rs5)) rfl hL.2.1 (rest := rs5) rfl (by rw [C.2.1]; exact hdg) hR1.1 (by
      have hw9 : nativeFrameWords "java/lang/System" "arraycopy" 5 + 11 ≤ 32 := by decide
      show 2 * 0 + _ + _ ≤ _
      rw [hS5.sum]; omega)
  have hlen : (ca.stretch sp'.toNatClampNeg n'.toNatClampNeg).length = n'.toNatClampNeg := by simp [Cell.stretch]
  have hl : b < H.size := (Array.getElem?_eq_some_iff.mp d1).1
  have hheap : ((T.setVm vm').setCell b (copied ca cb sp' dp' n')).heap = H.setIfInBounds b (copied ca cb sp' dp' n') := by rw [← hT]; rfl
  have hfacts := Cell.storeRun_facts cb dp'.toNatClampNeg (ca.stretch sp'.toNatClampNeg n'.toNatClampNeg)
  obtain ⟨t, a1, b1⟩ := kk ls rs5 (H.setIfInBounds b (copied ca cb sp' dp' n')) _ hL hS5 (hR.upd (a := b) (by simp) (fun q hq => by simp [Array.getElem?_setIfInBounds, Ne.symm hq]) hb.2 rfl agr_saI (by
      unfold RC
      rw [show hkd (saI h b (cpI (haI h a) (haI h b) sp'.toInt dp'.toInt n'.toInt)) b = (1, nb) from hb.1]
      refine ⟨copied ca cb sp' dp' n', by simp [Array.getElem?_setIfInBounds, hl], ?_, ?_, ?_, d5, fun j hj => ?_⟩
      · refine ⟨fun k hk => o2 k (by rw [← hfacts.2.1]; exact hk), kb, ?_, cmb, hkkb⟩
        show s.vm.classes[(cb.storeRun dp'.toNatClampNeg (ca.stretch sp'.toNatClampNeg n'.toNatClampNeg)).cls]? = _
        rw [hfacts.1]; exact hkb
      · show (cb.storeRun dp'.toNatClampNeg (ca.stretch sp'.toNatClampNeg n'.toNatClampNeg)).vm ≠ _
        rw [hfacts.2.1]; exact d3
      · show (cb.storeRun dp'.toNatClampNeg (ca.stretch sp'.toNatClampNeg n'.toNatClampNeg)).slots.size = _
        rw [hfacts.2.2.1]; exact d4
      · rw [saI_s]
        show ∃ x, (cb.storeRun dp'.toNatClampNeg (ca.stretch sp'.toNatClampNeg n'.toNatClampNeg)).slots[j]? = _ ∧ _
        rw [Cell.storeRun_get _ _ _ _ (by rw [hlen, d4]; omega), hlen]
        unfold cpI
        by_cases hin : dp'.toNatClampNeg ≤ j ∧ j < dp'.toNatClampNeg + n'.toNatClampNeg
        · rw [if_pos hin, if_pos (by omega)]
          obtain ⟨x, x1, x2⟩ := hval (j - dp'.toNatClampNeg) (by omega)
          refine ⟨x, ?_, ?_⟩
          · unfold Cell.stretch
            rw [List.getElem?_map, List.getElem?_range (by omega)]
            show some (ca.slots.getD (sp'.toNatClampNeg + (j - dp'.toNatClampNeg)) .null) = _
            rw [x1]
          · rw [x2]; congr 1; omega
        · rw [if_neg hin, if_neg (by omega)]
          exact d6 j hj)) (by
      intro q hq
      rcases List.mem_append.mp hq with hq | hq
      · exact hf q hq
      · obtain ⟨z, -, hz⟩ := List.mem_map.mp hq
        rw [← hz]
        show G.2.1.size ≤ b
        rw [← hR.1]; exact hb.2) _ hheap X'
  exact ⟨t, step t a1, b1⟩
theorem aw_objInit (C : CF G p s m args meth c cc own) {idx : Nat} (hw : Cond.methodLink own idx Lib.objectInit ∈ xTb) (hw2 : Cond.instanceMethod Lib.objectInit ∈ xTb) (hw3 : Cond.code Lib.objectInit ⟨#[0xb1]⟩ 1 none ∈ xTb) (hR1 : 1 ≤ R.frames ∧ 20 ≤ R.locals) (hr : (st.map acat).sum ≤ 8) (hdg : decode cc pc = .ok (.invokespecial idx, 3)) {a : Nat} (kk : AW G p l e R s m args below meth c bc bs Qf (pc + 3) env st h) : AW G p l e R s m args below meth c bc bs Qf pc env (vR a :: st) h := by
  intro ls rs H locs hL hS hR hf
  obtain ⟨rs1, rfl, hS1⟩ := hS.ref
  exact W.objInit C.1 C.2.1 C.2.2.1 (C.2.2.2.1 _ hw) (C.2.2.2.1 _ hw2) (C.2.2.2.1 _ hw3) rfl hL.2.1 rfl hdg hR1.1 (by show 2 * 0 + _ + 12 ≤ _; rw [hS1.sum]; omega) (kk ls _ H locs hL hS1 hR hf)
theorem aw_run {mc ms : Nat} {Q : Option AV → AH → Prop} {ls : Array Slot} {rs rest : List Value} {H : Heap} {locs : List Loc} {a : Array Value} (hrun : va_Run p l e R s m args below meth c H locs bc bs mc ms (F0 m pc ls rs) rest (QG G Q a) (frA G)) (hL : LR c.maxLocals env ls) (hS : SR st rest) (hf : ∀ q ∈ locs, G.2.1.size ≤ q.base)
    (kk : ∀ (v : Option AV) (h' : AH), Q v h' → AW G p l e R s m args below meth c (bc + mc) (bs + ms) Qf (pc + 3) env (v.toList ++ st) h') : W p l e R s m args below meth c H locs bc bs Qf (F0 m pc ls rs) := by
  intro T hT X
  obtain ⟨v, st₀, t, T', L, h0, X', hLf, e1, e2, ⟨r, av, h', hv, hav, hq, hrel⟩, st1⟩ := hrun T hT X
  cases hv
  have hal : t.vm.Alike s.vm := by rw [← e2]; exact (X'.warmed.alike).symm
  have hrel2 : Rel s G.1 G.2.1 h' T'.heap := by rw [e1]; exact hrel.moved hal
  have hS2 : SR (av.toList ++ st) (v.toList ++ rest) := by
    cases v with
    | none => cases av with
      | none => exact hS
      | some _ => simp at hav
    | some w => cases av with
      | none => simp at hav
      | some z => exact hS.cons (by simpa using hav)
  obtain ⟨t2, a1, b1⟩ := kk av h' hq ls _ T'.heap (locs ++ L) hL hS2 hrel2 (fun q hq => by
    rcases List.mem_append.mp hq with hq | hq
    · exact hf q hq
    · exact hLf q hq) T' rfl X'
  exact ⟨t2, st1 t2 a1, b1⟩
theorem PcA.blind {As : List Value} {h : AH} : FrameBlind (PcA G As h) := fun a U g mk q => ⟨q.1, q.2.1.moved (u := U.calling g mk a) (Vm.Alike.refl U.vm), va_K.moved (u := U) (U := U.calling g mk a) (Vm.Alike.refl U.vm) q.2.2.1, q.2.2.2.1.moved (u := U.calling g mk a) (Vm.Alike.refl U.vm), q.2.2.2.2.same rfl⟩
theorem PcA.at {As : List Value} {H : Heap} (C : CF G p s m args meth c cc own) (hR : Rel s G.1 G.2.1 h H) : ∀ U : State, U.heap = H → s.WarmedH U.vm → PcA G As h As.toArray U := fun U hU hW => ⟨rfl, by rw [hU]; exact hR.moved hW.alike, va_K.moved hW.alike C.2.2.2.2.2.1, C.2.2.2.2.2.2.1.moved hW.alike, C.2.2.2.2.2.2.2.warm hW⟩
theorem good_cons {y : MethodName} {bytes : ByteArray} {maxL : Nat} {ret : Option FieldType} (hw : Cond.code y bytes maxL ret ∈ xTb) : GoodIn xTb (.code y bytes maxL ret :: xTb) := fun w h => by
  rcases List.mem_cons.mp h with rfl | h
  · exact good_all _ hw
  · exact good_all _ h
theorem aw_callV (C : CF G p s m args meth c cc own) {ci idx maxL mc ms b : Nat} {Cn : String} {T : u_T} {N : Nat} {y : MethodName} {bytes : ByteArray} {ret : Option FieldType} {rm : Room} {Q : Option AV → AH → Prop} {as st0 : List AV} (I : CI ci Cn T N)
    (hM : ∀ As : List Value, As.map ab = (vR b :: as).map some → Met l y (.code y bytes maxL ret :: xTb) rm (PcA G As h) (QG G Q) mc ms (frA G))
    (hw : Cond.methodLink own idx y ∈ xTb) (hw2 : Cond.instanceMethod y ∈ xTb) (hw3 : Cond.selects y.cls y y ∈ xTb) (hw4 : Cond.initialized y.cls ∈ xTb) (hw5 : Cond.code y bytes maxL ret ∈ xTb) (hrm : rm.cells = mc ∧ rm.slots = ms)
    (hd : y.cls = Cn ∧ y.cls ≠ "java/lang/invoke/MethodHandle" ∧ y.cls ≠ "java/lang/invoke/VarHandle" ∧ (parseMethodDescriptor y.desc).map (fun d => d.parameters.length) = some as.length) (hR1 : rm.frames + 1 ≤ R.frames ∧ 8 + (maxL + 11) + rm.locals ≤ R.locals) (hR2 : bc + mc ≤ R.cells ∧ bs + ms ≤ R.slots) (hr : (st.map acat).sum ≤ 8)
    (hdg : decode cc pc = .ok (.invokevirtual idx, 3)) (hst : st0 = as.reverse ++ vR b :: st) (hb : (hkd h b).1 = ci + 4)
    (kk : ∀ (v : Option AV) (h' : AH), Q v h' → AW G p l e R s m args below meth c (bc + mc) (bs + ms) Qf (pc + 3) env (v.toList ++ st) h') : AW G p l e R s m args below meth c bc bs Qf pc env st0 h := by
  subst hst
  intro ls rs H locs hL hS hR hf
  obtain ⟨Ar, rs1, rfl, hA, hS1⟩ := hS.split
  obtain ⟨rs2, rfl, hS2⟩ := hS1.ref
  obtain ⟨V, ⟨cell, v1, v2, v3, -⟩, -⟩ := (hR.2.2.2.2 b).obj I hb
  have hA' : SR as Ar.reverse := hA.rev
  have hM' := hM (.ref b :: Ar.reverse) (by have := hA'; unfold SR at this; simp [this]; rfl)
  obtain ⟨hd1, hd2, hd3, hd4⟩ := hd
  refine aw_run (va_runV (As := Ar.reverse) (rest := rs2) (C := Cn) ⟨C.1, C.2.1, rfl, C.2.2.1, C.2.2.2.1⟩ hM' ⟨callB_of as.length C.2.2.2.1 (good_cons hw5) rfl hrm.1 hrm.2 (C.2.2.2.1 _ hw4) (C.2.2.2.1 _ hw) ⟨hd2, hd3, hd4⟩ hR1, C.2.2.2.1 _ hw2, by rw [← hd1]; exact C.2.2.2.1 _ hw3⟩ ⟨PcA.blind, ⟨cell, v1, by rw [v3]; rfl, by rw [v2]; exact (C.2.2.2.2.2.1.1 ci _ I.1).2.1⟩, PcA.at C hR⟩ rfl hA'.len hL.2.1 (by simp) (by show 2 * 0 + _ ≤ 8; rw [hS2.sum]; omega) hdg hR2) hL hS2 hf kk
theorem aw_callS (C : CF G p s m args meth c cc own) {idx maxL mc ms : Nat} {y : MethodName} {bytes : ByteArray} {ret : Option FieldType} {rm : Room} {Q : Option AV → AH → Prop} {as st0 : List AV}
    (hM : ∀ As : List Value, As.map ab = as.map some → Met l y (.code y bytes maxL ret :: xTb) rm (PcA G As h) (QG G Q) mc ms (frA G))
    (hw : Cond.methodLink own idx y ∈ xTb) (hw2 : Cond.static y ∈ xTb) (hw4 : Cond.initialized y.cls ∈ xTb) (hw5 : Cond.code y bytes maxL ret ∈ xTb) (hrm : rm.cells = mc ∧ rm.slots = ms)
    (hd : y.cls ≠ "java/lang/invoke/MethodHandle" ∧ y.cls ≠ "java/lang/invoke/VarHandle" ∧ (parseMethodDescriptor y.desc).map (fun d => d.parameters.length) = some as.length) (hR1 : rm.frames + 1 ≤ R.frames ∧ 8 + (maxL + 11) + rm.locals ≤ R.locals) (hR2 : bc + mc ≤ R.cells ∧ bs + ms ≤ R.slots) (hr : (st.map acat).sum ≤ 8)
    (hdg : decode cc pc = .ok (.invokestatic idx, 3)) (hst : st0 = as.reverse ++ st)
    (kk : ∀ (v : Option AV) (h' : AH), Q v h' → AW G p l e R s m args below meth c (bc + mc) (bs + ms) Qf (pc + 3) env (v.toList ++ st) h') : AW G p l e R s m args below meth c bc bs Qf pc env st0 h := by
  subst hst
  intro ls rs H locs hL hS hR hf
  obtain ⟨Ar, rs2, rfl, hA, hS2⟩ := hS.split
  have hA' : SR as Ar.reverse := hA.rev
  have hM' := hM Ar.reverse hA'
  exact aw_run (va_runS (As := Ar.reverse) (rest := rs2) ⟨C.1, C.2.1, rfl, C.2.2.1, C.2.2.2.1⟩ hM' ⟨callB_of as.length C.2.2.2.1 (good_cons hw5) rfl hrm.1 hrm.2 (C.2.2.2.1 _ hw4) (C.2.2.2.1 _ hw) hd hR1, C.2.2.2.1 _ hw2⟩ ⟨PcA.blind, PcA.at C hR⟩ rfl hA'.len hL.2.1 (by simp) (by show 2 * 0 + _ ≤ 8; rw [hS2.sum]; omega) hdg hR2) hL hS2 hf kk
theorem aw_callSN (C : CF G p s m args meth c cc own) {idx maxL mc ms : Nat} {y : MethodName} {host : String} {bytes : ByteArray} {ret : Option FieldType} {rm : Room} {Q : Option AV → AH → Prop} {as st0 : List AV}
    (hM : ∀ As : List Value, As.map ab = as.map some → Met l y (.code y bytes maxL ret :: xTb) rm (PcA G As h) (QG G Q) mc ms (frA G))
    (hw : nwM = Cond.methodLinkNest own idx y host) (hw2 : Cond.static y ∈ xTb) (hw4 : Cond.initialized y.cls ∈ xTb) (hw5 : Cond.code y bytes maxL ret ∈ xTb) (hrm : rm.cells = mc ∧ rm.slots = ms)
    (hd : y.cls ≠ "java/lang/invoke/MethodHandle" ∧ y.cls ≠ "java/lang/invoke/VarHandle" ∧ (parseMethodDescriptor y.desc).map (fun d => d.parameters.length) = some as.length) (hR1 : rm.frames + 1 ≤ R.frames ∧ 8 + (maxL + 11) + rm.locals ≤ R.locals) (hR2 : bc + mc ≤ R.cells ∧ bs + ms ≤ R.slots) (hr : (st.map acat).sum ≤ 8)
    (hdg : decode cc pc = .ok (.invokestatic idx, 3)) (hst : st0 = as.reverse ++ st)
    (kk : ∀ (v : Option AV) (h' : AH), Q v h' → AW G p l e R s m args below meth c (bc + mc) (bs + ms) Qf (pc + 3) env (v.toList ++ st) h') : AW G p l e R s m args below meth c bc bs Qf pc env st0 h := by
  subst hst
  intro ls rs H locs hL hS hR hf
  obtain ⟨Ar, rs2, rfl, hA, hS2⟩ := hS.split
  have hA' : SR as Ar.reverse := hA.rev
  have hM' := hM Ar.reverse hA'
  exact aw_run (va_runSN (As := Ar.reverse) (rest := rs2) ⟨C.1, C.2.1, rfl, C.2.2.1, C.2.2.2.1⟩ hM' ⟨va_cnB as.length C.2.2.2.1 (good_cons hw5) rfl hrm.1 hrm.2 (by rw [← hw]; exact C.2.2.2.2.2.2.2.1) (C.2.2.2.1 _ hw4) hd hR1, C.2.2.2.1 _ hw2, trivial⟩ ⟨PcA.blind, PcA.at C hR⟩ rfl hA'.len hL.2.1 (by simp) (by show 2 * 0 + _ ≤ 8; rw [hS2.sum]; omega) hdg hR2) hL hS2 hf kk
theorem aw_callI (C : CF G p s m args meth c cc own) {idx maxL mc ms b : Nat} {y : MethodName} {bytes : ByteArray} {rm : Room} {Q : Option AV → AH → Prop} {as st0 : List AV}
    (hM : ∀ As : List Value, As.map ab = (vR b :: as).map some → Met l y (.code y bytes maxL none :: xTb) rm (PcA G As h) (QG G Q) mc ms (frA G))
    (hw : Cond.methodLink own idx y ∈ xTb) (hw2 : Cond.instanceMethod y ∈ xTb) (hw4 : Cond.initialized y.cls ∈ xTb) (hw5 : Cond.code y bytes maxL none ∈ xTb) (hrm : rm.cells = mc ∧ rm.slots = ms) (hy1 : y.name = "<init>")
    (hd : y.cls ≠ "java/lang/invoke/MethodHandle" ∧ y.cls ≠ "java/lang/invoke/VarHandle" ∧ (parseMethodDescriptor y.desc).map (fun d => d.parameters.length) = some as.length) (hR1 : rm.frames + 1 ≤ R.frames ∧ 8 + (maxL + 11) + rm.locals ≤ R.locals) (hR2 : bc + mc ≤ R.cells ∧ bs + ms ≤ R.slots) (hr : (st.map acat).sum ≤ 8)
    (hdg : decode cc pc = .ok (.invokespecial idx, 3)) (hst : st0 = as.reverse ++ vR b :: st)
    (kk : ∀ (v : Option AV) (h' : AH), Q v h' → AW G p l e R s m args below meth c (bc + mc) (bs + ms) Qf (pc + 3) env (v.toList ++ st) h') : AW G p l e R s m args below meth c bc bs Qf pc env st0 h := by
  subst hst
  intro ls rs H locs hL hS hR hf
  obtain ⟨Ar, rs1, rfl, hA, hS1⟩ := hS.split
  obtain ⟨rs2, rfl, hS2⟩ := hS1.ref
  have hA' : SR as Ar.reverse := hA.rev
  have hM' := hM (.ref b :: Ar.reverse) (by have := hA'; unfold SR at this; simp [this]; rfl)
  exact aw_run (va_runI (As := Ar.reverse) (rest := rs2) ⟨C.1, C.2.1, rfl, C.2.2.1, C.2.2.2.1⟩ hM' (cwI as.length C.2.2.2.1 (good_cons hw5) rfl hrm.1 hrm.2 (C.2.2.2.1 _ hw4) (C.2.2.2.1 _ hw) (C.2.2.2.1 _ hw2) hy1 hd hR1) ⟨PcA.blind, PcA.at C hR⟩ rfl hA'.len hL.2.1 (by simp) (by show 2 * 0 + _ ≤ 8; rw [hS2.sum]; omega) hdg hR2) hL hS2 hf kk
theorem aw_iret (C : CF G p s m args meth c cc own) {mc ms : Nat} {Q : Option AV → AH → Prop} {i : Int} (hr : meth.sig.returnType = some .int) (hdg : decode cc pc = .ok (.ireturn, 1)) (hb : bc ≤ mc ∧ bs ≤ ms) (hq : Q (some (vI i)) h) : AW G p l e R s m args below meth c bc bs (MQ below (QG G Q) args s mc ms (frA G)) pc env [vI i] h := by
  intro ls rs H locs hL hS hR hf
  obtain ⟨x, rs1, rfl, rfl, hS1⟩ := hS.int
  obtain rfl := hS1.empty
  refine W.widen hb.1 hb.2 ?_
  exact W.iret C.1 C.2.1 hr (fun t ht hW => ⟨_, _, h, rfl, rfl, hq, by rw [ht]; exact hR.moved hW.alike⟩) hf hdg C.2.2.2.2.1
theorem aw_zret (C : CF G p s m args meth c cc own) {mc ms : Nat} {Q : Option AV → AH → Prop} {i : Int} (hr : meth.sig.returnType = some .boolean) (hdg : decode cc pc = .ok (.ireturn, 1)) (hb : bc ≤ mc ∧ bs ≤ ms) (hz : i = 0 ∨ i = 1) (hq : Q (some (vI i)) h) : AW G p l e R s m args below meth c bc bs (MQ below (QG G Q) args s mc ms (frA G)) pc env [vI i] h := by
  intro ls rs H locs hL hS hR hf
  obtain ⟨x, rs1, rfl, e1, hS1⟩ := hS.int
  obtain rfl := hS1.empty
  have hx2 : x = 0 ∨ x = 1 := by
    rcases hz with hz | hz
    · left; rw [toInt_eq, e1, hz]; rfl
    · right; rw [toInt_eq, e1, hz]; rfl
  refine W.widen hb.1 hb.2 ?_
  exact W.zret C.1 C.2.1 hr (by rcases hx2 with rfl | rfl <;> rfl) (fun t ht hW => ⟨_, _, h, rfl, by rw [← e1]; rfl, hq, by rw [ht]; exact hR.moved hW.alike⟩) hf hdg C.2.2.2.2.1
theorem aw_lret (C : CF G p s m args meth c cc own) {mc ms : Nat} {Q : Option AV → AH → Prop} {i : Int64} (hr : meth.sig.returnType = some .long) (hdg : decode cc pc = .ok (.lreturn, 1)) (hb : bc ≤ mc ∧ bs ≤ ms) (hq : Q (some (vL i)) h) : AW G p l e R s m args below meth c bc bs (MQ below (QG G Q) args s mc ms (frA G)) pc env [vL i] h := by
  intro ls rs H locs hL hS hR hf
  obtain ⟨rs1, rfl, hS1⟩ := hS.long
  obtain rfl := hS1.empty
  refine W.widen hb.1 hb.2 ?_
  exact W.lret C.1 C.2.1 hr (fun t ht hW => ⟨_, _, h, rfl, rfl, hq, by rw [ht]; exact hR.moved hW.alike⟩) hf hdg C.2.2.2.2.1
theorem aw_dret (C : CF G p s m args meth c cc own) {mc ms : Nat} {Q : Option AV → AH → Prop} {i : UInt64} (hr : meth.sig.returnType = some .double) (hdg : decode cc pc = .ok (.dreturn, 1)) (hb : bc ≤ mc ∧ bs ≤ ms) (hq : Q (some (vD i)) h) : AW G p l e R s m args below meth c bc bs (MQ below (QG G Q) args s mc ms (frA G)) pc env [vD i] h := by
  intro ls rs H locs hL hS hR hf
  obtain ⟨rs1, rfl, hS1⟩ := hS.dbl
  obtain rfl := hS1.empty
  refine W.widen hb.1 hb.2 ?_
  exact W.dret C.1 C.2.1 hr (fun t ht hW => ⟨_, _, h, rfl, rfl, hq, by rw [ht]; exact hR.moved hW.alike⟩) hf hdg C.2.2.2.2.1
theorem aw_vret (C : CF G p s m args meth c cc own) {mc ms : Nat} {Q : Option AV → AH → Prop} (hr : meth.sig.returnType = none) (hdg : decode cc pc = .ok (.return_, 1)) (hb : bc ≤ mc ∧ bs ≤ ms) (hq : Q none h) : AW G p l e R s m args below meth c bc bs (MQ below (QG G Q) args s mc ms (frA G)) pc env [] h := by
  intro ls rs H locs hL hS hR hf
  obtain rfl := hS.empty
  refine W.widen hb.1 hb.2 ?_
  exact W.vret C.1 C.2.1 hr (fun t ht hW => ⟨_, _, h, rfl, rfl, hq, by rw [ht]; exact hR.moved hW.alike⟩) hf hdg C.2.2.2.2.1
theorem aw_aret (C : CF G p s m args meth c cc own) {mc ms : Nat} {Q : Option AV → AH → Prop} {a : Nat} {n : String} (hr : meth.sig.returnType = some (.object n)) (hdg : decode cc pc = .ok (.areturn, 1)) (hb : bc ≤ mc ∧ bs ≤ ms) (hq : Q (some (vR a)) h) : AW G p l e R s m args below meth c bc bs (MQ below (QG G Q) args s mc ms (frA G)) pc env [vR a] h := by
  intro ls rs H locs hL hS hR hf
  obtain ⟨rs1, rfl, hS1⟩ := hS.ref
  obtain rfl := hS1.empty
  refine W.widen hb.1 hb.2 ?_
  exact W.aret C.1 C.2.1 hr (Or.inl ⟨n, rfl⟩) (Or.inr ⟨a, rfl⟩) (fun t ht hW => ⟨_, _, h, rfl, rfl, hq, by rw [ht]; exact hR.moved hW.alike⟩) hf hdg C.2.2.2.2.1
end AWC
end
section
def okA (h : AH) (a c : Nat) : Prop := (hkd h a).1 = c + 4
def okP (h : AH) (a c : Nat) : Prop := (hkd h a).1 = c + 4 ∧ hlo h ≤ a
def okI (h : AH) (a : Nat) (i : Int) : Prop := ∃ n : Nat, hkd h a = (1, n) ∧ 0 ≤ i ∧ i < (n : Int)
def okJ (h : AH) (a : Nat) (i : Int) : Prop := ∃ n : Nat, hkd h a = (2, n) ∧ 0 ≤ i ∧ i < (n : Int)
def okQ (h : AH) (a : Nat) (i : Int) : Prop := ∃ n : Nat, hkd h a = (3, n) ∧ 0 ≤ i ∧ i < (n : Int)
def okW (h : AH) (a : Nat) (i : Int) : Prop := ∃ n : Nat, hkd h a = (1, n) ∧ 0 ≤ i ∧ i < (n : Int) ∧ hlo h ≤ a
def okV (h : AH) (a : Nat) (i : Int) : Prop := ∃ n : Nat, hkd h a = (2, n) ∧ 0 ≤ i ∧ i < (n : Int) ∧ hlo h ≤ a
def okU (h : AH) (a : Nat) (i : Int) : Prop := ∃ n : Nat, hkd h a = (3, n) ∧ 0 ≤ i ∧ i < (n : Int) ∧ hlo h ≤ a
def okC (h : AH) (a : Nat) (sp : Int) (b : Nat) (dp n : Int) : Prop := ∃ na nb : Nat, hkd h a = (1, na) ∧ (hkd h b = (1, nb) ∧ hlo h ≤ b) ∧ 0 ≤ sp ∧ 0 ≤ dp ∧ 0 ≤ n ∧ sp + n ≤ (na : Int) ∧ dp + n ≤ (nb : Int)
theorem jn_out {α : Type} {K : α} {B : α → Prop} (h : jn K B) : ∃ k, k = K ∧ B k := ⟨K, rfl, h⟩
section AWN
variable {G : GG} {p : Program} {l : Launch} {e : Env} {R : Room} {s : State} {m : MethodId} {args : Array Value} {below : List Frame} {meth : Method} {c : Code} {bc bs : Nat} {Qf : State → Prop} {cc : ByteArray} {own : String}
variable {pc : Nat} {env : Nat → Option AV} {st : List AV} {h : AH}
theorem aw_nmI {x : Int} (k : ∀ y : Int, y = x → AW G p l e R s m args below meth c bc bs Qf pc env (vI y :: st) h) : AW G p l e R s m args below meth c bc bs Qf pc env (vI x :: st) h := k x rfl
theorem aw_nmR {x : Nat} (k : ∀ y : Nat, y = x → AW G p l e R s m args below meth c bc bs Qf pc env (vR y :: st) h) : AW G p l e R s m args below meth c bc bs Qf pc env (vR x :: st) h := k x rfl
theorem aw_nmL {x : Int64} (k : ∀ y : Int64, y = x → AW G p l e R s m args below meth c bc bs Qf pc env (vL y :: st) h) : AW G p l e R s m args below meth c bc bs Qf pc env (vL x :: st) h := k x rfl
theorem aw_nmD {x : UInt64} (k : ∀ y : UInt64, y = x → AW G p l e R s m args below meth c bc bs Qf pc env (vD y :: st) h) : AW G p l e R s m args below meth c bc bs Qf pc env (vD x :: st) h := k x rfl
theorem aw_nmH (k : ∀ h' : AH, h' = h → AW G p l e R s m args below meth c bc bs Qf pc env st h') : AW G p l e R s m args below meth c bc bs Qf pc env st h := k h rfl
theorem aw_iincN (C : CF G p s m args meth c cc own) {i : Nat} {n k x : Int} (hdg : decode cc pc = .ok (.iinc i n, 3)) (hk : (Int32.ofInt n).toInt = k) (hl : env i = some (vI x)) (hn : i < c.maxLocals) (hr : inR (x + k)) (kk : ∀ y : Int, y = x + k → AW G p l e R s m args below meth c bc bs Qf (pc + 3) (es env i (vI y)) st h) : AW G p l e R s m args below meth c bc bs Qf pc env st h := aw_iinc C hdg hk hl hn hr (kk _ rfl)
end AWN
theorem tw1 : Cond.initialized "TextMorph" ∈ xTb := tb 1 (by decide +kernel) rfl
theorem tw2 : Cond.initialized "TextMorph$State" ∈ xTb := tb 2 (by decide +kernel) rfl
theorem tw3 : Cond.initialized "TextMorph$Text" ∈ xTb := tb 3 (by decide +kernel) rfl
theorem tw4 : Cond.initialized "java/util/Arrays" ∈ xTb := tb 4 (by decide +kernel) rfl
theorem tw7 : Cond.initialized "TextMorph$Pairs" ∈ xTb := tb 7 (by decide +kernel) rfl
theorem tw10 : Cond.initialized "TextMorphModel" ∈ xTb := tb 10 (by decide +kernel) rfl
theorem tw17 : Cond.initialized "java/lang/Math" ∈ xTb := tb 17 (by decide +kernel) rfl
theorem tw40 : Cond.methodLink "TextMorph$Text" (22 : Nat) ({ cls := "java/util/Arrays", name := "fill", desc := "([II)V" } : MethodName) ∈ xTb := tb 40 (by decide +kernel) rfl
theorem tw41 : Cond.static ({ cls := "java/util/Arrays", name := "fill", desc := "([II)V" } : MethodName) ∈ xTb := tb 41 (by decide +kernel) rfl
theorem tw42 : Cond.code ({ cls := "java/util/Arrays", name := "fill", desc := "([II)V" } : MethodName) prog_21_method_103_code (4 : Nat) (Option.none : Option FieldType) ∈ xTb := tb 42 (by decide +kernel) rfl
theorem tw43 : Cond.fieldLink "TextMorph$Text" (9 : Nat) "TextMorph$Text" "codes" "[I" ∈ xTb := tb 43 (by decide +kernel) rfl
theorem tw45 : Cond.fieldLink "TextMorph$Text" (15 : Nat) "TextMorph$Text" "cells" "[I" ∈ xTb := tb 45 (by decide +kernel) rfl
theorem tw48 : Cond.fieldLink "TextMorph$Text" (18 : Nat) "TextMorph$Text" "letters" "I" ∈ xTb := tb 48 (by decide +kernel) rfl
theorem tw51 : Cond.fieldLink "TextMorph$Pairs" (73 : Nat) "TextMorph$Text" "letters" "I" ∈ xTb := tb 51 (by decide +kernel) rfl
theorem tw68 : Cond.fieldLink "TextMorph$Pairs" (40 : Nat) "TextMorph$State" "settings" "[I" ∈ xTb := tb 68 (by decide +kernel) rfl
theorem tw71 : Cond.fieldLink "TextMorph$State" (18 : Nat) "TextMorph$State" "first" "LTextMorph$Text;" ∈ xTb := tb 71 (by decide +kernel) rfl
theorem tw72 : Cond.fieldLink "TextMorph$State" (22 : Nat) "TextMorph$State" "second" "LTextMorph$Text;" ∈ xTb := tb 72 (by decide +kernel) rfl
theorem tw92 : Cond.fieldLink "TextMorph$Pairs" (9 : Nat) "TextMorph$Pairs" "partnerOfFirst" "[I" ∈ xTb := tb 92 (by decide +kernel) rfl
theorem tw93 : Cond.fieldLink "TextMorph$Morph" (95 : Nat) "TextMorph$Pairs" "partnerOfFirst" "[I" ∈ xTb := tb 93 (by decide +kernel) rfl
theorem tw95 : Cond.fieldLink "TextMorph$Pairs" (15 : Nat) "TextMorph$Pairs" "partnerOfSecond" "[I" ∈ xTb := tb 95 (by decide +kernel) rfl
theorem tw96 : Cond.fieldLink "TextMorph$Morph" (98 : Nat) "TextMorph$Pairs" "partnerOfSecond" "[I" ∈ xTb := tb 96 (by decide +kernel) rfl
theorem tw97 : Cond.fieldLink "TextMorph$Pairs" (18 : Nat) "TextMorph$Pairs" "kindOfFirst" "[I" ∈ xTb := tb 97 (by decide +kernel) rfl
theorem tw98 : Cond.fieldLink "TextMorph$Morph" (74 : Nat) "TextMorph$Pairs" "kindOfFirst" "[I" ∈ xTb := tb 98 (by decide +kernel) rfl
theorem tw99 : Cond.fieldLink "TextMorph$Pairs" (21 : Nat) "TextMorph$Pairs" "kindOfSecond" "[I" ∈ xTb := tb 99 (by decide +kernel) rfl
theorem tw100 : Cond.fieldLink "TextMorph$Morph" (80 : Nat) "TextMorph$Pairs" "kindOfSecond" "[I" ∈ xTb := tb 100 (by decide +kernel) rfl
theorem tw101 : Cond.fieldLink "TextMorph$Pairs" (24 : Nat) "TextMorph$Pairs" "ofKind" "[I" ∈ xTb := tb 101 (by decide +kernel) rfl
theorem tw105 : Cond.fieldLink "TextMorph$Pairs" (30 : Nat) "TextMorph$Pairs" "state" "LTextMorph$State;" ∈ xTb := tb 105 (by decide +kernel) rfl
theorem tw173 : Cond.fieldLink "TextMorph$Morph" (40 : Nat) "TextMorph$Morph" "pairs" "LTextMorph$Pairs;" ∈ xTb := tb 173 (by decide +kernel) rfl
theorem tw177 : Cond.fieldLink "TextMorph$Morph" (31 : Nat) "TextMorph$Morph" "state" "LTextMorph$State;" ∈ xTb := tb 177 (by decide +kernel) rfl
theorem tw210 : Cond.fieldLink "TextMorph$Buffer" (9 : Nat) "TextMorph$Buffer" "signs" "[I" ∈ xTb := tb 210 (by decide +kernel) rfl
theorem tw212 : Cond.fieldLink "TextMorph$Buffer" (15 : Nat) "TextMorph$Buffer" "cells" "[I" ∈ xTb := tb 212 (by decide +kernel) rfl
theorem tw214 : Cond.fieldLink "TextMorph$Buffer" (18 : Nat) "TextMorph$Buffer" "length" "I" ∈ xTb := tb 214 (by decide +kernel) rfl
theorem tw266 : Cond.instanceMethod ({ cls := "TextMorph$State", name := "text", desc := "(I)LTextMorph$Text;" } : MethodName) ∈ xTb := tb 266 (by decide +kernel) rfl
theorem tw267 : Cond.selects "TextMorph$State" ({ cls := "TextMorph$State", name := "text", desc := "(I)LTextMorph$Text;" } : MethodName) ({ cls := "TextMorph$State", name := "text", desc := "(I)LTextMorph$Text;" } : MethodName) ∈ xTb := tb 267 (by decide +kernel) rfl
theorem tw268 : Cond.code ({ cls := "TextMorph$State", name := "text", desc := "(I)LTextMorph$Text;" } : MethodName) prog_6_method_2_code (2 : Nat) (Option.some (FieldType.object "TextMorph$Text")) ∈ xTb := tb 268 (by decide +kernel) rfl
theorem tw302 : Cond.methodLink "TextMorph$Pairs" (49 : Nat) ({ cls := "TextMorph$State", name := "text", desc := "(I)LTextMorph$Text;" } : MethodName) ∈ xTb := tb 302 (by decide +kernel) rfl
theorem tw311 : Cond.methodLink "TextMorph$Pairs" (88 : Nat) ({ cls := "TextMorph$Text", name := "codeOf", desc := "(I)I" } : MethodName) ∈ xTb := tb 311 (by decide +kernel) rfl
theorem tw312 : Cond.instanceMethod ({ cls := "TextMorph$Text", name := "codeOf", desc := "(I)I" } : MethodName) ∈ xTb := tb 312 (by decide +kernel) rfl
theorem tw313 : Cond.selects "TextMorph$Text" ({ cls := "TextMorph$Text", name := "codeOf", desc := "(I)I" } : MethodName) ({ cls := "TextMorph$Text", name := "codeOf", desc := "(I)I" } : MethodName) ∈ xTb := tb 313 (by decide +kernel) rfl
theorem tw314 : Cond.code ({ cls := "TextMorph$Text", name := "codeOf", desc := "(I)I" } : MethodName) prog_7_method_8_code (2 : Nat) (Option.some FieldType.int) ∈ xTb := tb 314 (by decide +kernel) rfl
theorem tw322 : Cond.methodLink "TextMorph$Pairs" (84 : Nat) ({ cls := "TextMorph$Pairs", name := "pair", desc := "(III)V" } : MethodName) ∈ xTb := tb 322 (by decide +kernel) rfl
theorem tw324 : Cond.instanceMethod ({ cls := "TextMorph$Pairs", name := "pair", desc := "(III)V" } : MethodName) ∈ xTb := tb 324 (by decide +kernel) rfl
theorem tw325 : Cond.code ({ cls := "TextMorph$Pairs", name := "pair", desc := "(III)V" } : MethodName) prog_5_method_5_code (4 : Nat) (Option.none : Option FieldType) ∈ xTb := tb 325 (by decide +kernel) rfl
theorem tw330 : Cond.methodLink "TextMorph$Pairs" (95 : Nat) ({ cls := "TextMorph$Pairs", name := "mayBePaired", desc := "(III)Z" } : MethodName) ∈ xTb := tb 330 (by decide +kernel) rfl
theorem tw332 : Cond.instanceMethod ({ cls := "TextMorph$Pairs", name := "mayBePaired", desc := "(III)Z" } : MethodName) ∈ xTb := tb 332 (by decide +kernel) rfl
theorem tw333 : Cond.code ({ cls := "TextMorph$Pairs", name := "mayBePaired", desc := "(III)Z" } : MethodName) prog_5_method_10_code (4 : Nat) (Option.some FieldType.boolean) ∈ xTb := tb 333 (by decide +kernel) rfl
theorem tw334 : Cond.methodLink "TextMorph$Pairs" (64 : Nat) ({ cls := "TextMorph$Text", name := "rowOf", desc := "(I)I" } : MethodName) ∈ xTb := tb 334 (by decide +kernel) rfl
theorem tw335 : Cond.instanceMethod ({ cls := "TextMorph$Text", name := "rowOf", desc := "(I)I" } : MethodName) ∈ xTb := tb 335 (by decide +kernel) rfl
theorem tw336 : Cond.selects "TextMorph$Text" ({ cls := "TextMorph$Text", name := "rowOf", desc := "(I)I" } : MethodName) ({ cls := "TextMorph$Text", name := "rowOf", desc := "(I)I" } : MethodName) ∈ xTb := tb 336 (by decide +kernel) rfl
theorem tw337 : Cond.code ({ cls := "TextMorph$Text", name := "rowOf", desc := "(I)I" } : MethodName) prog_7_method_6_code (2 : Nat) (Option.some FieldType.int) ∈ xTb := tb 337 (by decide +kernel) rfl
theorem tw338 : Cond.methodLink "TextMorph$Pairs" (99 : Nat) ({ cls := "TextMorph$Pairs", name := "distance", desc := "(II)I" } : MethodName) ∈ xTb := tb 338 (by decide +kernel) rfl
theorem tw339 : Cond.instanceMethod ({ cls := "TextMorph$Pairs", name := "distance", desc := "(II)I" } : MethodName) ∈ xTb := tb 339 (by decide +kernel) rfl
theorem tw340 : Cond.selects "TextMorph$Pairs" ({ cls := "TextMorph$Pairs", name := "distance", desc := "(II)I" } : MethodName) ({ cls := "TextMorph$Pairs", name := "distance", desc := "(II)I" } : MethodName) ∈ xTb := tb 340 (by decide +kernel) rfl
theorem tw341 : Cond.code ({ cls := "TextMorph$Pairs", name := "distance", desc := "(II)I" } : MethodName) prog_5_method_3_code (5 : Nat) (Option.some FieldType.int) ∈ xTb := tb 341 (by decide +kernel) rfl
theorem tw342 : Cond.methodLink "TextMorph$Pairs" (53 : Nat) ({ cls := "TextMorph$Text", name := "columnOf", desc := "(I)I" } : MethodName) ∈ xTb := tb 342 (by decide +kernel) rfl
theorem tw343 : Cond.instanceMethod ({ cls := "TextMorph$Text", name := "columnOf", desc := "(I)I" } : MethodName) ∈ xTb := tb 343 (by decide +kernel) rfl
theorem tw344 : Cond.selects "TextMorph$Text" ({ cls := "TextMorph$Text", name := "columnOf", desc := "(I)I" } : MethodName) ({ cls := "TextMorph$Text", name := "columnOf", desc := "(I)I" } : MethodName) ∈ xTb := tb 344 (by decide +kernel) rfl
theorem tw345 : Cond.code ({ cls := "TextMorph$Text", name := "columnOf", desc := "(I)I" } : MethodName) prog_7_method_7_code (2 : Nat) (Option.some FieldType.int) ∈ xTb := tb 345 (by decide +kernel) rfl
theorem tw346 : Cond.methodLink "TextMorph$Pairs" (59 : Nat) ({ cls := "java/lang/Math", name := "abs", desc := "(I)I" } : MethodName) ∈ xTb := tb 346 (by decide +kernel) rfl
theorem tw347 : Cond.static ({ cls := "java/lang/Math", name := "abs", desc := "(I)I" } : MethodName) ∈ xTb := tb 347 (by decide +kernel) rfl
theorem tw348 : Cond.code ({ cls := "java/lang/Math", name := "abs", desc := "(I)I" } : MethodName) prog_15_method_59_code (1 : Nat) (Option.some FieldType.int) ∈ xTb := tb 348 (by decide +kernel) rfl
theorem tw381 : Cond.methodLink "TextMorph$Morph" (65 : Nat) ({ cls := "TextMorph$State", name := "text", desc := "(I)LTextMorph$Text;" } : MethodName) ∈ xTb := tb 381 (by decide +kernel) rfl
theorem tw398 : Cond.methodLink "TextMorph$Buffer" (22 : Nat) ({ cls := "java/util/Arrays", name := "fill", desc := "([II)V" } : MethodName) ∈ xTb := tb 398 (by decide +kernel) rfl
theorem tw400 : Cond.static ({ cls := "TextMorph", name := "isLetter", desc := "(I)Z" } : MethodName) ∈ xTb := tb 400 (by decide +kernel) rfl
theorem tw401 : Cond.code ({ cls := "TextMorph", name := "isLetter", desc := "(I)Z" } : MethodName) prog_1_method_33_code (1 : Nat) (Option.some FieldType.boolean) ∈ xTb := tb 401 (by decide +kernel) rfl
theorem tw432 : Cond.methodLink "TextMorph$Morph" (111 : Nat) ({ cls := "TextMorph$Pairs", name := "distance", desc := "(II)I" } : MethodName) ∈ xTb := tb 432 (by decide +kernel) rfl
theorem tw441 : Cond.methodLink "TextMorph$Morph" (105 : Nat) ({ cls := "TextMorph$Text", name := "columnOf", desc := "(I)I" } : MethodName) ∈ xTb := tb 441 (by decide +kernel) rfl
theorem tw443 : Cond.methodLink "TextMorph$Morph" (101 : Nat) ({ cls := "TextMorph$Text", name := "rowOf", desc := "(I)I" } : MethodName) ∈ xTb := tb 443 (by decide +kernel) rfl
theorem tw456 : Cond.methodLink "TextMorph$Morph" (108 : Nat) ({ cls := "TextMorph$Text", name := "codeOf", desc := "(I)I" } : MethodName) ∈ xTb := tb 456 (by decide +kernel) rfl
theorem tw654 : Cond.methodLink "TextMorph$Text" (34 : Nat) ({ cls := "TextMorph$Text", name := "numberLetters", desc := "()V" } : MethodName) ∈ xTb := tb 654 (by decide +kernel) rfl
theorem tw656 : Cond.instanceMethod ({ cls := "TextMorph$Text", name := "numberLetters", desc := "()V" } : MethodName) ∈ xTb := tb 656 (by decide +kernel) rfl
theorem tw657 : Cond.code ({ cls := "TextMorph$Text", name := "numberLetters", desc := "()V" } : MethodName) prog_7_method_9_code (2 : Nat) (Option.none : Option FieldType) ∈ xTb := tb 657 (by decide +kernel) rfl
theorem tw793 : Cond.fieldLink "TextMorphModel" (7 : Nat) "TextMorphModel" "z" "[I" ∈ xTb := tb 793 (by decide +kernel) rfl
theorem tw798 : Cond.fieldLink "TextMorphModel" (19 : Nat) "TextMorphModel" "many" "[I" ∈ xTb := tb 798 (by decide +kernel) rfl
theorem tw799 : Cond.fieldLink "TextMorphModel" (22 : Nat) "TextMorphModel" "cellOf" "[I" ∈ xTb := tb 799 (by decide +kernel) rfl
theorem tw800 : Cond.fieldLink "TextMorphModel" (25 : Nat) "TextMorphModel" "codeOf" "[I" ∈ xTb := tb 800 (by decide +kernel) rfl
theorem tw801 : Cond.fieldLink "TextMorphModel" (28 : Nat) "TextMorphModel" "partner" "[I" ∈ xTb := tb 801 (by decide +kernel) rfl
theorem tw802 : Cond.fieldLink "TextMorphModel" (31 : Nat) "TextMorphModel" "kindOf" "[I" ∈ xTb := tb 802 (by decide +kernel) rfl
theorem tw883 : Cond.methodLink "TextMorphModel" (65 : Nat) ({ cls := "TextMorphModel", name := "within", desc := "(III)Z" } : MethodName) ∈ xTb := tb 883 (by decide +kernel) rfl
theorem tw884 : Cond.static ({ cls := "TextMorphModel", name := "within", desc := "(III)Z" } : MethodName) ∈ xTb := tb 884 (by decide +kernel) rfl
theorem tw885 : Cond.code ({ cls := "TextMorphModel", name := "within", desc := "(III)Z" } : MethodName) prog_9_method_3_code (3 : Nat) (Option.some FieldType.boolean) ∈ xTb := tb 885 (by decide +kernel) rfl
theorem tw922 : Cond.methodLink "TextMorphModel" (76 : Nat) ({ cls := "TextMorphModel", name := "areEqual", desc := "(II)Z" } : MethodName) ∈ xTb := tb 922 (by decide +kernel) rfl
theorem tw924 : Cond.instanceMethod ({ cls := "TextMorphModel", name := "areEqual", desc := "(II)Z" } : MethodName) ∈ xTb := tb 924 (by decide +kernel) rfl
theorem tw925 : Cond.code ({ cls := "TextMorphModel", name := "areEqual", desc := "(II)Z" } : MethodName) prog_9_method_12_code (3 : Nat) (Option.some FieldType.boolean) ∈ xTb := tb 925 (by decide +kernel) rfl
theorem tw926 : Cond.methodLink "TextMorphModel" (80 : Nat) ({ cls := "TextMorphModel", name := "pair", desc := "(III)V" } : MethodName) ∈ xTb := tb 926 (by decide +kernel) rfl
theorem tw928 : Cond.instanceMethod ({ cls := "TextMorphModel", name := "pair", desc := "(III)V" } : MethodName) ∈ xTb := tb 928 (by decide +kernel) rfl
theorem tw929 : Cond.code ({ cls := "TextMorphModel", name := "pair", desc := "(III)V" } : MethodName) prog_9_method_9_code (4 : Nat) (Option.none : Option FieldType) ∈ xTb := tb 929 (by decide +kernel) rfl
theorem tw934 : Cond.methodLink "TextMorphModel" (88 : Nat) ({ cls := "TextMorphModel", name := "canPair", desc := "(III)Z" } : MethodName) ∈ xTb := tb 934 (by decide +kernel) rfl
theorem tw936 : Cond.instanceMethod ({ cls := "TextMorphModel", name := "canPair", desc := "(III)Z" } : MethodName) ∈ xTb := tb 936 (by decide +kernel) rfl
theorem tw937 : Cond.code ({ cls := "TextMorphModel", name := "canPair", desc := "(III)Z" } : MethodName) prog_9_method_14_code (7 : Nat) (Option.some FieldType.boolean) ∈ xTb := tb 937 (by decide +kernel) rfl
theorem tw938 : Cond.methodLink "TextMorphModel" (84 : Nat) ({ cls := "TextMorphModel", name := "distance", desc := "(II)I" } : MethodName) ∈ xTb := tb 938 (by decide +kernel) rfl
theorem tw940 : Cond.instanceMethod ({ cls := "TextMorphModel", name := "distance", desc := "(II)I" } : MethodName) ∈ xTb := tb 940 (by decide +kernel) rfl
theorem tw941 : Cond.code ({ cls := "TextMorphModel", name := "distance", desc := "(II)I" } : MethodName) prog_9_method_11_code (5 : Nat) (Option.some FieldType.int) ∈ xTb := tb 941 (by decide +kernel) rfl
theorem tw942 : Cond.methodLink "TextMorphModel" (69 : Nat) ({ cls := "TextMorphModel", name := "size", desc := "(I)I" } : MethodName) ∈ xTb := tb 942 (by decide +kernel) rfl
theorem tw943 : Cond.static ({ cls := "TextMorphModel", name := "size", desc := "(I)I" } : MethodName) ∈ xTb := tb 943 (by decide +kernel) rfl
theorem tw944 : Cond.code ({ cls := "TextMorphModel", name := "size", desc := "(I)I" } : MethodName) prog_9_method_10_code (1 : Nat) (Option.some FieldType.int) ∈ xTb := tb 944 (by decide +kernel) rfl
theorem tw945 : Cond.methodLink "TextMorphModel" (73 : Nat) ({ cls := "TextMorphModel", name := "of", desc := "(I)I" } : MethodName) ∈ xTb := tb 945 (by decide +kernel) rfl
theorem tw947 : Cond.instanceMethod ({ cls := "TextMorphModel", name := "of", desc := "(I)I" } : MethodName) ∈ xTb := tb 947 (by decide +kernel) rfl
theorem tw948 : Cond.code ({ cls := "TextMorphModel", name := "of", desc := "(I)I" } : MethodName) prog_9_method_5_code (2 : Nat) (Option.some FieldType.int) ∈ xTb := tb 948 (by decide +kernel) rfl
end
section
/-! THE METHODS, BY PROGRAM (wip/whole/gen.py): what each means (w_..), and its contract (met_..) -/
theorem dJ7_fill_53178_0 : decode cJ7_fill_53178 0 = .ok (.iconst 0, 1) := by decide +kernel
theorem dJ7_fill_53178_1 : decode cJ7_fill_53178 1 = .ok (.istore_n 2, 1) := by decide +kernel
theorem dJ7_fill_53178_2 : decode cJ7_fill_53178 2 = .ok (.aload_n 0, 1) := by decide +kernel
theorem dJ7_fill_53178_3 : decode cJ7_fill_53178 3 = .ok (.arraylength, 1) := by decide +kernel
theorem dJ7_fill_53178_4 : decode cJ7_fill_53178 4 = .ok (.istore_n 3, 1) := by decide +kernel
theorem dJ7_fill_53178_5 : decode cJ7_fill_53178 5 = .ok (.iload_n 2, 1) := by decide +kernel
theorem dJ7_fill_53178_6 : decode cJ7_fill_53178 6 = .ok (.iload_n 3, 1) := by decide +kernel
theorem dJ7_fill_53178_7 : decode cJ7_fill_53178 7 = .ok (.if_icmp .ge 13, 3) := by decide +kernel
theorem dJ7_fill_53178_10 : decode cJ7_fill_53178 10 = .ok (.aload_n 0, 1) := by decide +kernel
theorem dJ7_fill_53178_11 : decode cJ7_fill_53178 11 = .ok (.iload_n 2, 1) := by decide +kernel
theorem dJ7_fill_53178_12 : decode cJ7_fill_53178 12 = .ok (.iload_n 1, 1) := by decide +kernel
theorem dJ7_fill_53178_13 : decode cJ7_fill_53178 13 = .ok (.iastore, 1) := by decide +kernel
theorem dJ7_fill_53178_14 : decode cJ7_fill_53178 14 = .ok (.iinc 2 1, 3) := by decide +kernel
theorem dJ7_fill_53178_17 : decode cJ7_fill_53178 17 = .ok (.goto (-12), 3) := by decide +kernel
theorem dJ7_fill_53178_20 : decode cJ7_fill_53178 20 = .ok (.return_, 1) := by decide +kernel
theorem pd_J7_fill_53178 : (parseMethodDescriptor yJ7_fill_53178.desc).map (fun d => d.parameters.length) = some 2 := by decide +kernel
def w_J7_fill_53178 (zz : Nat → Nat) (a0 : Nat) (a1 : Int) (h : AH) (Q : AH → Prop) : Prop := ∃ k3 : Nat, hkd h a0 = (1, k3) ∧ ∀ x3_4 : Int, x3_4 = (k3 : Int) → ∃ I_5 : Nat → Int → AH → Prop, (∃ n, I_5 n (0 : Int) h) ∧ ∀ (n_5 : Nat) (x2_5 : Int) (h_5 : AH), I_5 n_5 x2_5 h_5 → (((x3_4 ≤ x2_5) → Q h_5) ∧ ((¬ (x3_4 ≤ x2_5)) → okW h_5 a0 x2_5 ∧ ∀ h13 : AH, h13 = saI h_5 a0 (u1 (haI h_5 a0) x2_5 a1) → inR (x2_5 + 1) ∧ ∀ x2_14 : Int, x2_14 = (x2_5 + 1) → ∃ m, m < n_5 ∧ I_5 m x2_14 h13))
set_option maxRecDepth 100000 in
set_option maxHeartbeats 4000000 in
theorem met_J7_fill_53178 (G : GG) (l : Launch) : ∀ (As : List Value) (a0 : Nat) (a1 : Int) (h : AH) (Q : AH → Prop), As.map ab = List.map some ([vR a0, vI a1] : List AV) → w_J7_fill_53178 G.2.2 a0 a1 h Q → Met l yJ7_fill_53178 (.code yJ7_fill_53178 cJ7_fill_53178 4 none :: xTb) ({ frames := 0, cells := 0, slots := 0, locals := 0 } : Room) (PcA G As h) (QG G (oV Q)) 0 0 (frA G) := by
  intro As a0 a1 h Q hA hw
  refine met_of hA (by decide) (Nat.le_of_ble_eq_true rfl) (fun p e s m args below meth c C hml hr hnm => ?_)
  unfold w_J7_fill_53178 at hw
  refine aw_iconst (pc := 0) C dJ7_fill_53178_0 (i := (0 : Int)) (by decide) ?_
  refine aw_istore_n (pc := 1) C dJ7_fill_53178_1 rfl (by rw [hml]; decide) ?_
  refine aw_aload_n (pc := 2) C dJ7_fill_53178_2 rfl rfl ?_
  obtain ⟨k3, hp9, hw⟩ := hw
  refine aw_alen (pc := 3) C dJ7_fill_53178_3 hp9 ?_
  refine aw_nmI (fun x3_4 e9 => ?_)
  have hw := hw x3_4 e9
  refine aw_istore_n (pc := 4) C dJ7_fill_53178_4 rfl (by rw [hml]; decide) ?_
  obtain ⟨I_5, ⟨n9, hi9⟩, hst9⟩ := hw
  have L_5 : ∀ (n_5 : Nat) (x2_5 : Int) (h_5 : AH), I_5 n_5 x2_5 h_5 → AW G p l e ({ frames := 0, cells := 0, slots := 0, locals := 0 } : Room) s m args below meth c 0 0 (MQ below (QG G (oV Q)) args s 0 0 (frA G)) 5 (eOf [(0, vR a0), (1, vI a1), (2, vI x2_5), (3, vI x3_4)]) [] h_5 := by
    intro n_5
    induction n_5 using Nat.strongRecOn with
    | _ n_5 ih_5 =>
    intro x2_5 h_5 hi9
    have hw := hst9 n_5 x2_5 h_5 hi9
    refine aw_iload_n (pc := 5) C dJ7_fill_53178_5 rfl rfl ?_
    refine aw_iload_n (pc := 6) C dJ7_fill_53178_6 rfl rfl ?_
    refine aw_icmp_ge (pc := 7) (tgt := 20) C dJ7_fill_53178_7 (by decide) (fun hc9 => ?_) (fun hc9 => ?_)
    · have hw := hw.1 hc9
      exact aw_vret (pc := 20) C hr dJ7_fill_53178_20 ⟨Nat.le_of_ble_eq_true rfl, Nat.le_of_ble_eq_true rfl⟩ ⟨rfl, hw⟩
    · have hw := hw.2 hc9
      refine aw_aload_n (pc := 10) C dJ7_fill_53178_10 rfl rfl ?_
      refine aw_iload_n (pc := 11) C dJ7_fill_53178_11 rfl rfl ?_
      refine aw_iload_n (pc := 12) C dJ7_fill_53178_12 rfl rfl ?_
      obtain ⟨⟨k9, hp9⟩, hw⟩ := hw
      refine aw_iast (pc := 13) C dJ7_fill_53178_13 hp9 (aw_nmH (fun h13 e9 => ?_))
      have hw := hw h13 e9
      obtain ⟨hp9, hw⟩ := hw
      refine aw_iincN (pc := 14) C dJ7_fill_53178_14 (k := 1) (by decide) rfl (by rw [hml]; decide) hp9 (fun x2_14 e9 => ?_)
      have hw := hw x2_14 e9
      refine aw_goto (pc := 17) (tgt := 5) C dJ7_fill_53178_17 (by decide) ?_
      obtain ⟨m9, hm9, hw⟩ := hw
      refine aw_sub [(0, vR a0), (1, vI a1), (2, vI x2_14), (3, vI x3_4)] ⟨rfl, rfl, rfl, rfl, trivial⟩ ?_
      exact ih_5 m9 hm9 _ _ hw
  refine aw_sub [(0, vR a0), (1, vI a1), (2, vI (0 : Int)), (3, vI x3_4)] ⟨rfl, rfl, rfl, rfl, trivial⟩ ?_
  exact L_5 n9 _ _ hi9
theorem dX6_isLetter_0 : decode cX6_isLetter 0 = .ok (.iload_n 0, 1) := by decide +kernel
theorem dX6_isLetter_1 : decode cX6_isLetter 1 = .ok (.bipush 97, 2) := by decide +kernel
theorem dX6_isLetter_3 : decode cX6_isLetter 3 = .ok (.if_icmp .lt 13, 3) := by decide +kernel
theorem dX6_isLetter_6 : decode cX6_isLetter 6 = .ok (.iload_n 0, 1) := by decide +kernel
theorem dX6_isLetter_7 : decode cX6_isLetter 7 = .ok (.bipush 122, 2) := by decide +kernel
theorem dX6_isLetter_9 : decode cX6_isLetter 9 = .ok (.if_icmp .gt 7, 3) := by decide +kernel
theorem dX6_isLetter_12 : decode cX6_isLetter 12 = .ok (.iconst 1, 1) := by decide +kernel
theorem dX6_isLetter_13 : decode cX6_isLetter 13 = .ok (.goto 4, 3) := by decide +kernel
theorem dX6_isLetter_16 : decode cX6_isLetter 16 = .ok (.iconst 0, 1) := by decide +kernel
theorem dX6_isLetter_17 : decode cX6_isLetter 17 = .ok (.ireturn, 1) := by decide +kernel
theorem pd_X6_isLetter : (parseMethodDescriptor yX6_isLetter.desc).map (fun d => d.parameters.length) = some 1 := by decide +kernel
def w_X6_isLetter (zz : Nat → Nat) (a0 : Int) (h : AH) (Q : Int → AH → Prop) : Prop := jn (fun (t0_17 : Int) (h_17 : AH) => (t0_17 = 0 ∨ t0_17 = 1) ∧ Q t0_17 h_17) (fun k_17 : Int → AH → Prop => jn (fun  (h_16 : AH) => k_17 (0 : Int) h_16) (fun k_16 : AH → Prop => ((a0 < (97 : Int)) → k_16  h) ∧ ((¬ (a0 < (97 : Int))) → (((122 : Int) < a0) → k_16  h) ∧ ((¬ ((122 : Int) < a0)) → k_17 (1 : Int) h))))
set_option maxRecDepth 100000 in
set_option maxHeartbeats 4000000 in
theorem met_X6_isLetter (G : GG) (l : Launch) : ∀ (As : List Value) (a0 : Int) (h : AH) (Q : Int → AH → Prop), As.map ab = List.map some ([vI a0] : List AV) → w_X6_isLetter G.2.2 a0 h Q → Met l yX6_isLetter (.code yX6_isLetter cX6_isLetter 1 (some .boolean) :: xTb) ({ frames := 0, cells := 0, slots := 0, locals := 0 } : Room) (PcA G As h) (QG G (oI Q)) 0 0 (frA G) := by
  intro As a0 h Q hA hw
  refine met_of hA (by decide) (Nat.le_of_ble_eq_true rfl) (fun p e s m args below meth c C hml hr hnm => ?_)
  unfold w_X6_isLetter at hw
  refine aw_iload_n (pc := 0) C dX6_isLetter_0 rfl rfl ?_
  refine aw_bipush (pc := 1) C dX6_isLetter_1 (i := (97 : Int)) (by decide) ?_
  obtain ⟨k_17, hk_17, hw⟩ := jn_out hw
  have J_17 : ∀ (t0_17 : Int) (h_17 : AH), k_17 t0_17 h_17 → AW G p l e ({ frames := 0, cells := 0, slots := 0, locals := 0 } : Room) s m args below meth c 0 0 (MQ below (QG G (oI Q)) args s 0 0 (frA G)) 17 (eOf []) [vI t0_17] h_17 := by
    intro t0_17 h_17 hw
    rw [hk_17] at hw
    obtain ⟨hp9, hw⟩ := hw
    exact aw_zret (pc := 17) C hr dX6_isLetter_17 ⟨Nat.le_of_ble_eq_true rfl, Nat.le_of_ble_eq_true rfl⟩ hp9 ⟨_, rfl, hw⟩
  obtain ⟨k_16, hk_16, hw⟩ := jn_out hw
  have J_16 : ∀  (h_16 : AH), k_16  h_16 → AW G p l e ({ frames := 0, cells := 0, slots := 0, locals := 0 } : Room) s m args below meth c 0 0 (MQ below (QG G (oI Q)) args s 0 0 (frA G)) 16 (eOf []) [] h_16 := by
    intro  h_16 hw
    rw [hk_16] at hw
    refine aw_iconst (pc := 16) C dX6_isLetter_16 (i := (0 : Int)) (by decide) ?_
    refine aw_sub [] trivial ?_
    exact J_17 _ _ hw
  refine aw_icmp_lt (pc := 3) (tgt := 16) C dX6_isLetter_3 (by decide) (fun hc9 => ?_) (fun hc9 => ?_)
  · have hw := hw.1 hc9
    refine aw_sub [] trivial ?_
    exact J_16  _ hw
  · have hw := hw.2 hc9
    refine aw_iload_n (pc := 6) C dX6_isLetter_6 rfl rfl ?_
    refine aw_bipush (pc := 7) C dX6_isLetter_7 (i := (122 : Int)) (by decide) ?_
    refine aw_icmp_gt (pc := 9) (tgt := 16) C dX6_isLetter_9 (by decide) (fun hc9 => ?_) (fun hc9 => ?_)
    · have hw := hw.1 hc9
      refine aw_sub [] trivial ?_
      exact J_16  _ hw
    · have hw := hw.2 hc9
      refine aw_iconst (pc := 12) C dX6_isLetter_12 (i := (1 : Int)) (by decide) ?_
      refine aw_goto (pc := 13) (tgt := 17) C dX6_isLetter_13 (by decide) ?_
      refine aw_sub [] trivial ?_
      exact J_17 _ _ hw
theorem dX0_read_0 : decode cX0_read 0 = .ok (.aload_n 0, 1) := by decide +kernel
theorem dX0_read_1 : decode cX0_read 1 = .ok (.getfield 15, 3) := by decide +kernel
theorem dX0_read_4 : decode cX0_read 4 = .ok (.bipush 32, 2) := by decide +kernel
theorem dX0_read_6 : decode cX0_read 6 = .ok (.invokestatic 22, 3) := by decide +kernel
theorem dX0_read_9 : decode cX0_read 9 = .ok (.iconst 0, 1) := by decide +kernel
theorem dX0_read_10 : decode cX0_read 10 = .ok (.istore_n 1, 1) := by decide +kernel
theorem dX0_read_11 : decode cX0_read 11 = .ok (.iconst 0, 1) := by decide +kernel
theorem dX0_read_12 : decode cX0_read 12 = .ok (.istore_n 2, 1) := by decide +kernel
theorem dX0_read_13 : decode cX0_read 13 = .ok (.iconst 0, 1) := by decide +kernel
theorem dX0_read_14 : decode cX0_read 14 = .ok (.istore_n 3, 1) := by decide +kernel
theorem dX0_read_15 : decode cX0_read 15 = .ok (.iconst 0, 1) := by decide +kernel
theorem dX0_read_16 : decode cX0_read 16 = .ok (.istore 4, 2) := by decide +kernel
theorem dX0_read_18 : decode cX0_read 18 = .ok (.iload 4, 2) := by decide +kernel
theorem dX0_read_20 : decode cX0_read 20 = .ok (.aload_n 0, 1) := by decide +kernel
theorem dX0_read_21 : decode cX0_read 21 = .ok (.getfield 18, 3) := by decide +kernel
theorem dX0_read_24 : decode cX0_read 24 = .ok (.if_icmp .ge 102, 3) := by decide +kernel
theorem dX0_read_27 : decode cX0_read 27 = .ok (.aload_n 0, 1) := by decide +kernel
theorem dX0_read_28 : decode cX0_read 28 = .ok (.getfield 9, 3) := by decide +kernel
theorem dX0_read_31 : decode cX0_read 31 = .ok (.iload 4, 2) := by decide +kernel
theorem dX0_read_33 : decode cX0_read 33 = .ok (.iaload, 1) := by decide +kernel
theorem dX0_read_34 : decode cX0_read 34 = .ok (.istore 5, 2) := by decide +kernel
theorem dX0_read_36 : decode cX0_read 36 = .ok (.iload 5, 2) := by decide +kernel
theorem dX0_read_38 : decode cX0_read 38 = .ok (.bipush 47, 2) := by decide +kernel
theorem dX0_read_40 : decode cX0_read 40 = .ok (.if_icmp .ne 16, 3) := by decide +kernel
theorem dX0_read_43 : decode cX0_read 43 = .ok (.iinc 1 1, 3) := by decide +kernel
theorem dX0_read_46 : decode cX0_read 46 = .ok (.iconst 0, 1) := by decide +kernel
theorem dX0_read_47 : decode cX0_read 47 = .ok (.istore_n 2, 1) := by decide +kernel
theorem dX0_read_48 : decode cX0_read 48 = .ok (.iload_n 1, 1) := by decide +kernel
theorem dX0_read_49 : decode cX0_read 49 = .ok (.iconst 5, 1) := by decide +kernel
theorem dX0_read_50 : decode cX0_read 50 = .ok (.if_icmp .lt 70, 3) := by decide +kernel
theorem dX0_read_53 : decode cX0_read 53 = .ok (.iload 4, 2) := by decide +kernel
theorem dX0_read_55 : decode cX0_read 55 = .ok (.ireturn, 1) := by decide +kernel
theorem dX0_read_56 : decode cX0_read 56 = .ok (.iload 5, 2) := by decide +kernel
theorem dX0_read_58 : decode cX0_read 58 = .ok (.bipush 46, 2) := by decide +kernel
theorem dX0_read_60 : decode cX0_read 60 = .ok (.if_icmp .ne 15, 3) := by decide +kernel
theorem dX0_read_63 : decode cX0_read 63 = .ok (.iload_n 2, 1) := by decide +kernel
theorem dX0_read_64 : decode cX0_read 64 = .ok (.bipush 16, 2) := by decide +kernel
theorem dX0_read_66 : decode cX0_read 66 = .ok (.if_icmp .ge 9, 3) := by decide +kernel
theorem dX0_read_69 : decode cX0_read 69 = .ok (.iinc 2 1, 3) := by decide +kernel
theorem dX0_read_72 : decode cX0_read 72 = .ok (.goto 48, 3) := by decide +kernel
theorem dX0_read_75 : decode cX0_read 75 = .ok (.iload 5, 2) := by decide +kernel
theorem dX0_read_77 : decode cX0_read 77 = .ok (.invokestatic 28, 3) := by decide +kernel
theorem dX0_read_80 : decode cX0_read 80 = .ok (.ifCond .eq 37, 3) := by decide +kernel
theorem dX0_read_83 : decode cX0_read 83 = .ok (.iload_n 2, 1) := by decide +kernel
theorem dX0_read_84 : decode cX0_read 84 = .ok (.bipush 16, 2) := by decide +kernel
theorem dX0_read_86 : decode cX0_read 86 = .ok (.if_icmp .ge 31, 3) := by decide +kernel
theorem dX0_read_89 : decode cX0_read 89 = .ok (.iload_n 3, 1) := by decide +kernel
theorem dX0_read_90 : decode cX0_read 90 = .ok (.bipush 40, 2) := by decide +kernel
theorem dX0_read_92 : decode cX0_read 92 = .ok (.if_icmp .ge 25, 3) := by decide +kernel
theorem dX0_read_95 : decode cX0_read 95 = .ok (.aload_n 0, 1) := by decide +kernel
theorem dX0_read_96 : decode cX0_read 96 = .ok (.getfield 15, 3) := by decide +kernel
theorem dX0_read_99 : decode cX0_read 99 = .ok (.bipush 16, 2) := by decide +kernel
theorem dX0_read_101 : decode cX0_read 101 = .ok (.iload_n 1, 1) := by decide +kernel
theorem dX0_read_102 : decode cX0_read 102 = .ok (.imul, 1) := by decide +kernel
theorem dX0_read_103 : decode cX0_read 103 = .ok (.iload_n 2, 1) := by decide +kernel
theorem dX0_read_104 : decode cX0_read 104 = .ok (.iadd, 1) := by decide +kernel
theorem dX0_read_105 : decode cX0_read 105 = .ok (.iload 5, 2) := by decide +kernel
theorem dX0_read_107 : decode cX0_read 107 = .ok (.iastore, 1) := by decide +kernel
theorem dX0_read_108 : decode cX0_read 108 = .ok (.iinc 2 1, 3) := by decide +kernel
theorem dX0_read_111 : decode cX0_read 111 = .ok (.iinc 3 1, 3) := by decide +kernel
theorem dX0_read_114 : decode cX0_read 114 = .ok (.goto 6, 3) := by decide +kernel
theorem dX0_read_117 : decode cX0_read 117 = .ok (.iload 4, 2) := by decide +kernel
theorem dX0_read_119 : decode cX0_read 119 = .ok (.ireturn, 1) := by decide +kernel
theorem dX0_read_120 : decode cX0_read 120 = .ok (.iinc 4 1, 3) := by decide +kernel
theorem dX0_read_123 : decode cX0_read 123 = .ok (.goto (-105), 3) := by decide +kernel
theorem dX0_read_126 : decode cX0_read 126 = .ok (.aload_n 0, 1) := by decide +kernel
theorem dX0_read_127 : decode cX0_read 127 = .ok (.getfield 18, 3) := by decide +kernel
theorem dX0_read_130 : decode cX0_read 130 = .ok (.ireturn, 1) := by decide +kernel
theorem pd_X0_read : (parseMethodDescriptor yX0_read.desc).map (fun d => d.parameters.length) = some 0 := by decide +kernel
def w_X0_read (zz : Nat → Nat) (a0 : Nat) (h : AH) (Q : Int → AH → Prop) : Prop := okA h a0 0 ∧ ∃ b1 : Nat, hfR h a0 1 = some b1 ∧ w_J7_fill_53178 zz b1 (32 : Int) h (fun  (h6 : AH) => ∃ I_18 : Nat → Int → Int → Int → Int → AH → Prop, (∃ n, I_18 n (0 : Int) (0 : Int) (0 : Int) (0 : Int) h6) ∧ ∀ (n_18 : Nat) (x1_18 : Int) (x2_18 : Int) (x3_18 : Int) (x4_18 : Int) (h_18 : AH), I_18 n_18 x1_18 x2_18 x3_18 x4_18 h_18 → (okA h_18 a0 0 ∧ (((hfI h_18 a0 2) ≤ x4_18) → okA h_18 a0 0 ∧ Q (hfI h_18 a0 2) h_18) ∧ ((¬ ((hfI h_18 a0 2) ≤ x4_18)) → okA h_18 a0 0 ∧ ∃ b28 : Nat, hfR h_18 a0 0 = some b28 ∧ okI h_18 b28 x4_18 ∧ ∀ x5_34 : Int, x5_34 = (haI h_18 b28 x4_18) → jn (fun (x1_120 : Int) (x2_120 : Int) (x3_120 : Int) (h_120 : AH) => inR (x4_18 + 1) ∧ ∀ x4_120 : Int, x4_120 = (x4_18 + 1) → ∃ m, m < n_18 ∧ I_18 m x1_120 x2_120 x3_120 x4_120 h_120) (fun k_120 : Int → Int → Int → AH → Prop => ((¬ x5_34 = (47 : Int)) → jn (fun  (h_75 : AH) => w_X6_isLetter zz x5_34 h_75 (fun (r77 : Int) (h77 : AH) => jn (fun  (h_117 : AH) => Q x4_18 h_117) (fun k_117 : AH → Prop => ((r77 = 0) → k_117  h77) ∧ ((¬ (r77 = 0)) → (((16 : Int) ≤ x2_18) → k_117  h77) ∧ ((¬ ((16 : Int) ≤ x2_18)) → (((40 : Int) ≤ x3_18) → k_117  h77) ∧ ((¬ ((40 : Int) ≤ x3_18)) → okA h77 a0 0 ∧ ∃ b96 : Nat, hfR h77 a0 1 = some b96 ∧ inR ((16 : Int) * x1_18) ∧ inR (((16 : Int) * x1_18) + x2_18) ∧ okW h77 b96 (((16 : Int) * x1_18) + x2_18) ∧ ∀ h107 : AH, h107 = saI h77 b96 (u1 (haI h77 b96) (((16 : Int) * x1_18) + x2_18) x5_34) → inR (x2_18 + 1) ∧ ∀ x2_108 : Int, x2_108 = (x2_18 + 1) → inR (x3_18 + 1) ∧ ∀ x3_111 : Int, x3_111 = (x3_18 + 1) → k_120 x1_18 x2_108 x3_111 h107)))))) (fun k_75 : AH → Prop => ((¬ x5_34 = (46 : Int)) → k_75  h_18) ∧ ((x5_34 = (46 : Int)) → (((16 : Int) ≤ x2_18) → k_75  h_18) ∧ ((¬ ((16 : Int) ≤ x2_18)) → inR (x2_18 + 1) ∧ ∀ x2_69 : Int, x2_69 = (x2_18 + 1) → k_120 x1_18 x2_69 x3_18 h_18)))) ∧ ((x5_34 = (47 : Int)) → inR (x1_18 + 1) ∧ ∀ x1_43 : Int, x1_43 = (x1_18 + 1) → ((x1_43 < (5 : Int)) → k_120 x1_43 (0 : Int) x3_18 h_18) ∧ ((¬ (x1_43 < (5 : Int))) → Q x4_18 h_18))))))
set_option maxRecDepth 100000 in
set_option maxHeartbeats 4000000 in
theorem met_X0_read (G : GG) (l : Launch) : ∀ (As : List Value) (a0 : Nat) (h : AH) (Q : Int → AH → Prop), As.map ab = List.map some ([vR a0] : List AV) → w_X0_read G.2.2 a0 h Q → Met l yX0_read (.code yX0_read cX0_read 6 (some .int) :: xTb) ({ frames := 1, cells := 0, slots := 0, locals := 23 } : Room) (PcA G As h) (QG G (oI Q)) 0 0 (frA G) := by
  intro As a0 h Q hA hw
  refine met_of hA (by decide) (Nat.le_of_ble_eq_true rfl) (fun p e s m args below meth c C hml hr hnm => ?_)
  unfold w_X0_read at hw
  refine aw_aload_n (pc := 0) C dX0_read_0 rfl rfl ?_
  obtain ⟨hp9, b1, hb9, hw⟩ := hw
  refine aw_getR (pc := 1) C (ci := 0) (k := 1) ci0 (by decide) tw212 dX0_read_1 rfl hp9 hb9 ?_
  refine aw_bipush (pc := 4) C dX0_read_4 (i := (32 : Int)) (by decide) ?_
  refine aw_callS (pc := 6) (as := [vR b1, vI (32 : Int)]) C (fun As hA => met_J7_fill_53178 G l As b1 (32 : Int) _ _ hA hw) tw398 tw41 tw4 tw42 ⟨rfl, rfl⟩ ⟨by decide, by decide, pd_J7_fill_53178⟩ ⟨Nat.le_of_ble_eq_true rfl, Nat.le_of_ble_eq_true rfl⟩ ⟨Nat.zero_le _, Nat.zero_le _⟩ (Nat.le_of_ble_eq_true rfl) dX0_read_6 rfl (fun v9 h6 hq9 => ?_)
  obtain ⟨rfl, hw⟩ := hq9
  refine aw_iconst (pc := 9) C dX0_read_9 (i := (0 : Int)) (by decide) ?_
  refine aw_istore_n (pc := 10) C dX0_read_10 rfl (by rw [hml]; decide) ?_
  refine aw_iconst (pc := 11) C dX0_read_11 (i := (0 : Int)) (by decide) ?_
  refine aw_istore_n (pc := 12) C dX0_read_12 rfl (by rw [hml]; decide) ?_
  refine aw_iconst (pc := 13) C dX0_read_13 (i := (0 : Int)) (by decide) ?_
  refine aw_istore_n (pc := 14) C dX0_read_14 rfl (by rw [hml]; decide) ?_
  refine aw_iconst (pc := 15) C dX0_read_15 (i := (0 : Int)) (by decide) ?_
  refine aw_istore (pc := 16) C dX0_read_16 (by rw [hml]; decide) ?_
  obtain ⟨I_18, ⟨n9, hi9⟩, hst9⟩ := hw
  have L_18 : ∀ (n_18 : Nat) (x1_18 : Int) (x2_18 : Int) (x3_18 : Int) (x4_18 : Int) (h_18 : AH), I_18 n_18 x1_18 x2_18 x3_18 x4_18 h_18 → AW G p l e ({ frames := 1, cells := 0, slots := 0, locals := 23 } : Room) s m args below meth c 0 0 (MQ below (QG G (oI Q)) args s 0 0 (frA G)) 18 (eOf [(0, vR a0), (1, vI x1_18), (2, vI x2_18), (3, vI x3_18), (4, vI x4_18)]) [] h_18 := by
    intro n_18
    induction n_18 using Nat.strongRecOn with
    | _ n_18 ih_18 =>
    intro x1_18 x2_18 x3_18 x4_18 h_18 hi9
    have hw := hst9 n_18 x1_18 x2_18 x3_18 x4_18 h_18 hi9
    refine aw_iload (pc := 18) C dX0_read_18 rfl ?_
    refine aw_aload_n (pc := 20) C dX0_read_20 rfl rfl ?_
    obtain ⟨hp9, hw⟩ := hw
    refine aw_getI (pc := 21) C (ci := 0) (k := 2) ci0 (by decide) tw214 dX0_read_21 rfl hp9 ?_
    refine aw_icmp_ge (pc := 24) (tgt := 126) C dX0_read_24 (by decide) (fun hc9 => ?_) (fun hc9 => ?_)
    · have hw := hw.1 hc9
      refine aw_aload_n (pc := 126) C dX0_read_126 rfl rfl ?_
      obtain ⟨hp9, hw⟩ := hw
      refine aw_getI (pc := 127) C (ci := 0) (k := 2) ci0 (by decide) tw214 dX0_read_127 rfl hp9 ?_
      exact aw_iret (pc := 130) C hr dX0_read_130 ⟨Nat.le_of_ble_eq_true rfl, Nat.le_of_ble_eq_true rfl⟩ ⟨_, rfl, hw⟩
    · have hw := hw.2 hc9
      refine aw_aload_n (pc := 27) C dX0_read_27 rfl rfl ?_
      obtain ⟨hp9, b28, hb9, hw⟩ := hw
      refine aw_getR (pc := 28) C (ci := 0) (k := 0) ci0 (by decide) tw210 dX0_read_28 rfl hp9 hb9 ?_
      refine aw_iload (pc := 31) C dX0_read_31 rfl ?_
      obtain ⟨⟨k9, hp9⟩, hw⟩ := hw
      refine aw_iald (pc := 33) C dX0_read_33 hp9 ?_
      refine aw_nmI (fun x5_34 e9 => ?_)
      have hw := hw x5_34 e9
      refine aw_istore (pc := 34) C dX0_read_34 (by rw [hml]; decide) ?_
      refine aw_iload (pc := 36) C dX0_read_36 rfl ?_
      refine aw_bipush (pc := 38) C dX0_read_38 (i := (47 : Int)) (by decide) ?_
      obtain ⟨k_120, hk_120, hw⟩ := jn_out hw
      have J_120 : ∀ (x1_120 : Int) (x2_120 : Int) (x3_120 : Int) (h_120 : AH), k_120 x1_120 x2_120 x3_120 h_120 → AW G p l e ({ frames := 1, cells := 0, slots := 0, locals := 23 } : Room) s m args below meth c 0 0 (MQ below (QG G (oI Q)) args s 0 0 (frA G)) 120 (eOf [(0, vR a0), (1, vI x1_120), (2, vI x2_120), (3, vI x3_120), (4, vI x4_18)]) [] h_120 := by
        intro x1_120 x2_120 x3_120 h_120 hw
        rw [hk_120] at hw
        obtain ⟨hp9, hw⟩ := hw
        refine aw_iincN (pc := 120) C dX0_read_120 (k := 1) (by decide) rfl (by rw [hml]; decide) hp9 (fun x4_120 e9 => ?_)
        have hw := hw x4_120 e9
        refine aw_goto (pc := 123) (tgt := 18) C dX0_read_123 (by decide) ?_
        obtain ⟨m9, hm9, hw⟩ := hw
        refine aw_sub [(0, vR a0), (1, vI x1_120), (2, vI x2_120), (3, vI x3_120), (4, vI x4_120)] ⟨rfl, rfl, rfl, rfl, rfl, trivial⟩ ?_
        exact ih_18 m9 hm9 _ _ _ _ _ hw
      refine aw_icmp_ne (pc := 40) (tgt := 56) C dX0_read_40 (by decide) (fun hc9 => ?_) (fun hc9 => ?_)
      · have hw := hw.1 hc9
        refine aw_iload (pc := 56) C dX0_read_56 rfl ?_
        refine aw_bipush (pc := 58) C dX0_read_58 (i := (46 : Int)) (by decide) ?_
        obtain ⟨k_75, hk_75, hw⟩ := jn_out hw
        have J_75 : ∀  (h_75 : AH), k_75  h_75 → AW G p l e ({ frames := 1, cells := 0, slots := 0, locals := 23 } : Room) s m args below meth c 0 0 (MQ below (QG G (oI Q)) args s 0 0 (frA G)) 75 (eOf [(0, vR a0), (1, vI x1_18), (2, vI x2_18), (3, vI x3_18), (4, vI x4_18), (5, vI x5_34)]) [] h_75 := by
          intro  h_75 hw
          rw [hk_75] at hw
          refine aw_iload (pc := 75) C dX0_read_75 rfl ?_
          refine aw_callSN (pc := 77) (as := [vI x5_34]) C (fun As hA => met_X6_isLetter G l As x5_34 _ _ hA hw) rfl tw400 tw1 tw401 ⟨rfl, rfl⟩ ⟨by decide, by decide, pd_X6_isLetter⟩ ⟨Nat.le_of_ble_eq_true rfl, Nat.le_of_ble_eq_true rfl⟩ ⟨Nat.zero_le _, Nat.zero_le _⟩ (Nat.le_of_ble_eq_true rfl) dX0_read_77 rfl (fun v9 h77 hq9 => ?_)
          obtain ⟨r77, rfl, hw⟩ := hq9
          obtain ⟨k_117, hk_117, hw⟩ := jn_out hw
          have J_117 : ∀  (h_117 : AH), k_117  h_117 → AW G p l e ({ frames := 1, cells := 0, slots := 0, locals := 23 } : Room) s m args below meth c 0 0 (MQ below (QG G (oI Q)) args s 0 0 (frA G)) 117 (eOf [(4, vI x4_18)]) [] h_117 := by
            intro  h_117 hw
            rw [hk_117] at hw
            refine aw_iload (pc := 117) C dX0_read_117 rfl ?_
            exact aw_iret (pc := 119) C hr dX0_read_119 ⟨Nat.le_of_ble_eq_true rfl, Nat.le_of_ble_eq_true rfl⟩ ⟨_, rfl, hw⟩
          refine aw_if_eq (pc := 80) (tgt := 117) C dX0_read_80 (by decide) (fun hc9 => ?_) (fun hc9 => ?_)
          · have hw := hw.1 hc9
            refine aw_sub [(4, vI x4_18)] ⟨rfl, trivial⟩ ?_
            exact J_117  _ hw
          · have hw := hw.2 hc9
            refine aw_iload_n (pc := 83) C dX0_read_83 rfl rfl ?_
            refine aw_bipush (pc := 84) C dX0_read_84 (i := (16 : Int)) (by decide) ?_
            refine aw_icmp_ge (pc := 86) (tgt := 117) C dX0_read_86 (by decide) (fun hc9 => ?_) (fun hc9 => ?_)
            · have hw := hw.1 hc9
              refine aw_sub [(4, vI x4_18)] ⟨rfl, trivial⟩ ?_
              exact J_117  _ hw
            · have hw := hw.2 hc9
              refine aw_iload_n (pc := 89) C dX0_read_89 rfl rfl ?_
              refine aw_bipush (pc := 90) C dX0_read_90 (i := (40 : Int)) (by decide) ?_
              refine aw_icmp_ge (pc := 92) (tgt := 117) C dX0_read_92 (by decide) (fun hc9 => ?_) (fun hc9 => ?_)
              · have hw := hw.1 hc9
                refine aw_sub [(4, vI x4_18)] ⟨rfl, trivial⟩ ?_
                exact J_117  _ hw
              · have hw := hw.2 hc9
                refine aw_aload_n (pc := 95) C dX0_read_95 rfl rfl ?_
                obtain ⟨hp9, b96, hb9, hw⟩ := hw
                refine aw_getR (pc := 96) C (ci := 0) (k := 1) ci0 (by decide) tw212 dX0_read_96 rfl hp9 hb9 ?_
                refine aw_bipush (pc := 99) C dX0_read_99 (i := (16 : Int)) (by decide) ?_
                refine aw_iload_n (pc := 101) C dX0_read_101 rfl rfl ?_
                obtain ⟨hp9, hw⟩ := hw
                refine aw_imul (pc := 102) C dX0_read_102 hp9 ?_
                refine aw_iload_n (pc := 103) C dX0_read_103 rfl rfl ?_
                obtain ⟨hp9, hw⟩ := hw
                refine aw_iadd (pc := 104) C dX0_read_104 hp9 ?_
                refine aw_iload (pc := 105) C dX0_read_105 rfl ?_
                obtain ⟨⟨k9, hp9⟩, hw⟩ := hw
                refine aw_iast (pc := 107) C dX0_read_107 hp9 (aw_nmH (fun h107 e9 => ?_))
                have hw := hw h107 e9
                obtain ⟨hp9, hw⟩ := hw
                refine aw_iincN (pc := 108) C dX0_read_108 (k := 1) (by decide) rfl (by rw [hml]; decide) hp9 (fun x2_108 e9 => ?_)
                have hw := hw x2_108 e9
                obtain ⟨hp9, hw⟩ := hw
                refine aw_iincN (pc := 111) C dX0_read_111 (k := 1) (by decide) rfl (by rw [hml]; decide) hp9 (fun x3_111 e9 => ?_)
                have hw := hw x3_111 e9
                refine aw_goto (pc := 114) (tgt := 120) C dX0_read_114 (by decide) ?_
                refine aw_sub [(0, vR a0), (1, vI x1_18), (2, vI x2_108), (3, vI x3_111), (4, vI x4_18)] ⟨rfl, rfl, rfl, rfl, rfl, trivial⟩ ?_
                exact J_120 _ _ _ _ hw
        refine aw_icmp_ne (pc := 60) (tgt := 75) C dX0_read_60 (by decide) (fun hc9 => ?_) (fun hc9 => ?_)
        · have hw := hw.1 hc9
          refine aw_sub [(0, vR a0), (1, vI x1_18), (2, vI x2_18), (3, vI x3_18), (4, vI x4_18), (5, vI x5_34)] ⟨rfl, rfl, rfl, rfl, rfl, rfl, trivial⟩ ?_
          exact J_75  _ hw
        · have hw := hw.2 hc9
          refine aw_iload_n (pc := 63) C dX0_read_63 rfl rfl ?_
          refine aw_bipush (pc := 64) C dX0_read_64 (i := (16 : Int)) (by decide) ?_
          refine aw_icmp_ge (pc := 66) (tgt := 75) C dX0_read_66 (by decide) (fun hc9 => ?_) (fun hc9 => ?_)
          · have hw := hw.1 hc9
            refine aw_sub [(0, vR a0), (1, vI x1_18), (2, vI x2_18), (3, vI x3_18), (4, vI x4_18), (5, vI x5_34)] ⟨rfl, rfl, rfl, rfl, rfl, rfl, trivial⟩ ?_
            exact J_75  _ hw
          · have hw := hw.2 hc9
            obtain ⟨hp9, hw⟩ := hw
            refine aw_iincN (pc := 69) C dX0_read_69 (k := 1) (by decide) rfl (by rw [hml]; decide) hp9 (fun x2_69 e9 => ?_)
            have hw := hw x2_69 e9
            refine aw_goto (pc := 72) (tgt := 120) C dX0_read_72 (by decide) ?_
            refine aw_sub [(0, vR a0), (1, vI x1_18), (2, vI x2_69), (3, vI x3_18), (4, vI x4_18)] ⟨rfl, rfl, rfl, rfl, rfl, trivial⟩ ?_
            exact J_120 _ _ _ _ hw
      · have hw := hw.2 hc9
        obtain ⟨hp9, hw⟩ := hw
        refine aw_iincN (pc := 43) C dX0_read_43 (k := 1) (by decide) rfl (by rw [hml]; decide) hp9 (fun x1_43 e9 => ?_)
        have hw := hw x1_43 e9
        refine aw_iconst (pc := 46) C dX0_read_46 (i := (0 : Int)) (by decide) ?_
        refine aw_istore_n (pc := 47) C dX0_read_47 rfl (by rw [hml]; decide) ?_
        refine aw_iload_n (pc := 48) C dX0_read_48 rfl rfl ?_
        refine aw_iconst (pc := 49) C dX0_read_49 (i := (5 : Int)) (by decide) ?_
        refine aw_icmp_lt (pc := 50) (tgt := 120) C dX0_read_50 (by decide) (fun hc9 => ?_) (fun hc9 => ?_)
        · have hw := hw.1 hc9
          refine aw_sub [(0, vR a0), (1, vI x1_43), (2, vI (0 : Int)), (3, vI x3_18), (4, vI x4_18)] ⟨rfl, rfl, rfl, rfl, rfl, trivial⟩ ?_
          exact J_120 _ _ _ _ hw
        · have hw := hw.2 hc9
          refine aw_iload (pc := 53) C dX0_read_53 rfl ?_
          exact aw_iret (pc := 55) C hr dX0_read_55 ⟨Nat.le_of_ble_eq_true rfl, Nat.le_of_ble_eq_true rfl⟩ ⟨_, rfl, hw⟩
  refine aw_sub [(0, vR a0), (1, vI (0 : Int)), (2, vI (0 : Int)), (3, vI (0 : Int)), (4, vI (0 : Int))] ⟨rfl, rfl, rfl, rfl, rfl, trivial⟩ ?_
  exact L_18 n9 _ _ _ _ _ hi9
theorem dX5_rowOf_0 : decode cX5_rowOf 0 = .ok (.aload_n 0, 1) := by decide +kernel
theorem dX5_rowOf_1 : decode cX5_rowOf 1 = .ok (.getfield 15, 3) := by decide +kernel
theorem dX5_rowOf_4 : decode cX5_rowOf 4 = .ok (.iload_n 1, 1) := by decide +kernel
theorem dX5_rowOf_5 : decode cX5_rowOf 5 = .ok (.iaload, 1) := by decide +kernel
theorem dX5_rowOf_6 : decode cX5_rowOf 6 = .ok (.bipush 16, 2) := by decide +kernel
theorem dX5_rowOf_8 : decode cX5_rowOf 8 = .ok (.idiv, 1) := by decide +kernel
theorem dX5_rowOf_9 : decode cX5_rowOf 9 = .ok (.ireturn, 1) := by decide +kernel
theorem pd_X5_rowOf : (parseMethodDescriptor yX5_rowOf.desc).map (fun d => d.parameters.length) = some 1 := by decide +kernel
def w_X5_rowOf (zz : Nat → Nat) (a0 : Nat) (a1 : Int) (h : AH) (Q : Int → AH → Prop) : Prop := okA h a0 5 ∧ ∃ b1 : Nat, hfR h a0 1 = some b1 ∧ okI h b1 a1 ∧ (0 ≤ (haI h b1 a1) ∧ 0 < (16 : Int)) ∧ Q ((haI h b1 a1) / (16 : Int)) h
set_option maxRecDepth 100000 in
set_option maxHeartbeats 4000000 in
theorem met_X5_rowOf (G : GG) (l : Launch) : ∀ (As : List Value) (a0 : Nat) (a1 : Int) (h : AH) (Q : Int → AH → Prop), As.map ab = List.map some ([vR a0, vI a1] : List AV) → w_X5_rowOf G.2.2 a0 a1 h Q → Met l yX5_rowOf (.code yX5_rowOf cX5_rowOf 2 (some .int) :: xTb) ({ frames := 0, cells := 0, slots := 0, locals := 0 } : Room) (PcA G As h) (QG G (oI Q)) 0 0 (frA G) := by
  intro As a0 a1 h Q hA hw
  refine met_of hA (by decide) (Nat.le_of_ble_eq_true rfl) (fun p e s m args below meth c C hml hr hnm => ?_)
  unfold w_X5_rowOf at hw
  refine aw_aload_n (pc := 0) C dX5_rowOf_0 rfl rfl ?_
  obtain ⟨hp9, b1, hb9, hw⟩ := hw
  refine aw_getR (pc := 1) C (ci := 5) (k := 1) ci5 (by decide) tw45 dX5_rowOf_1 rfl hp9 hb9 ?_
  refine aw_iload_n (pc := 4) C dX5_rowOf_4 rfl rfl ?_
  obtain ⟨⟨k9, hp9⟩, hw⟩ := hw
  refine aw_iald (pc := 5) C dX5_rowOf_5 hp9 ?_
  refine aw_bipush (pc := 6) C dX5_rowOf_6 (i := (16 : Int)) (by decide) ?_
  obtain ⟨hp9, hw⟩ := hw
  refine aw_idiv (pc := 8) C dX5_rowOf_8 hp9 ?_
  exact aw_iret (pc := 9) C hr dX5_rowOf_9 ⟨Nat.le_of_ble_eq_true rfl, Nat.le_of_ble_eq_true rfl⟩ ⟨_, rfl, hw⟩
theorem dX5_columnOf_0 : decode cX5_columnOf 0 = .ok (.aload_n 0, 1) := by decide +kernel
theorem dX5_columnOf_1 : decode cX5_columnOf 1 = .ok (.getfield 15, 3) := by decide +kernel
theorem dX5_columnOf_4 : decode cX5_columnOf 4 = .ok (.iload_n 1, 1) := by decide +kernel
theorem dX5_columnOf_5 : decode cX5_columnOf 5 = .ok (.iaload, 1) := by decide +kernel
theorem dX5_columnOf_6 : decode cX5_columnOf 6 = .ok (.bipush 16, 2) := by decide +kernel
theorem dX5_columnOf_8 : decode cX5_columnOf 8 = .ok (.irem, 1) := by decide +kernel
theorem dX5_columnOf_9 : decode cX5_columnOf 9 = .ok (.ireturn, 1) := by decide +kernel
theorem pd_X5_columnOf : (parseMethodDescriptor yX5_columnOf.desc).map (fun d => d.parameters.length) = some 1 := by decide +kernel
def w_X5_columnOf (zz : Nat → Nat) (a0 : Nat) (a1 : Int) (h : AH) (Q : Int → AH → Prop) : Prop := okA h a0 5 ∧ ∃ b1 : Nat, hfR h a0 1 = some b1 ∧ okI h b1 a1 ∧ (0 ≤ (haI h b1 a1) ∧ 0 < (16 : Int)) ∧ Q ((haI h b1 a1) % (16 : Int)) h
set_option maxRecDepth 100000 in
set_option maxHeartbeats 4000000 in
theorem met_X5_columnOf (G : GG) (l : Launch) : ∀ (As : List Value) (a0 : Nat) (a1 : Int) (h : AH) (Q : Int → AH → Prop), As.map ab = List.map some ([vR a0, vI a1] : List AV) → w_X5_columnOf G.2.2 a0 a1 h Q → Met l yX5_columnOf (.code yX5_columnOf cX5_columnOf 2 (some .int) :: xTb) ({ frames := 0, cells := 0, slots := 0, locals := 0 } : Room) (PcA G As h) (QG G (oI Q)) 0 0 (frA G) := by
  intro As a0 a1 h Q hA hw
  refine met_of hA (by decide) (Nat.le_of_ble_eq_true rfl) (fun p e s m args below meth c C hml hr hnm => ?_)
  unfold w_X5_columnOf at hw
  refine aw_aload_n (pc := 0) C dX5_columnOf_0 rfl rfl ?_
  obtain ⟨hp9, b1, hb9, hw⟩ := hw
  refine aw_getR (pc := 1) C (ci := 5) (k := 1) ci5 (by decide) tw45 dX5_columnOf_1 rfl hp9 hb9 ?_
  refine aw_iload_n (pc := 4) C dX5_columnOf_4 rfl rfl ?_
  obtain ⟨⟨k9, hp9⟩, hw⟩ := hw
  refine aw_iald (pc := 5) C dX5_columnOf_5 hp9 ?_
  refine aw_bipush (pc := 6) C dX5_columnOf_6 (i := (16 : Int)) (by decide) ?_
  obtain ⟨hp9, hw⟩ := hw
  refine aw_irem (pc := 8) C dX5_columnOf_8 hp9 ?_
  exact aw_iret (pc := 9) C hr dX5_columnOf_9 ⟨Nat.le_of_ble_eq_true rfl, Nat.le_of_ble_eq_true rfl⟩ ⟨_, rfl, hw⟩
theorem dX5_codeOf_0 : decode cX5_codeOf 0 = .ok (.aload_n 0, 1) := by decide +kernel
theorem dX5_codeOf_1 : decode cX5_codeOf 1 = .ok (.getfield 9, 3) := by decide +kernel
theorem dX5_codeOf_4 : decode cX5_codeOf 4 = .ok (.aload_n 0, 1) := by decide +kernel
theorem dX5_codeOf_5 : decode cX5_codeOf 5 = .ok (.getfield 15, 3) := by decide +kernel
theorem dX5_codeOf_8 : decode cX5_codeOf 8 = .ok (.iload_n 1, 1) := by decide +kernel
theorem dX5_codeOf_9 : decode cX5_codeOf 9 = .ok (.iaload, 1) := by decide +kernel
theorem dX5_codeOf_10 : decode cX5_codeOf 10 = .ok (.iaload, 1) := by decide +kernel
theorem dX5_codeOf_11 : decode cX5_codeOf 11 = .ok (.ireturn, 1) := by decide +kernel
theorem pd_X5_codeOf : (parseMethodDescriptor yX5_codeOf.desc).map (fun d => d.parameters.length) = some 1 := by decide +kernel
def w_X5_codeOf (zz : Nat → Nat) (a0 : Nat) (a1 : Int) (h : AH) (Q : Int → AH → Prop) : Prop := okA h a0 5 ∧ ∃ b1 : Nat, hfR h a0 0 = some b1 ∧ okA h a0 5 ∧ ∃ b5 : Nat, hfR h a0 1 = some b5 ∧ okI h b5 a1 ∧ okI h b1 (haI h b5 a1) ∧ Q (haI h b1 (haI h b5 a1)) h
set_option maxRecDepth 100000 in
set_option maxHeartbeats 4000000 in
theorem met_X5_codeOf (G : GG) (l : Launch) : ∀ (As : List Value) (a0 : Nat) (a1 : Int) (h : AH) (Q : Int → AH → Prop), As.map ab = List.map some ([vR a0, vI a1] : List AV) → w_X5_codeOf G.2.2 a0 a1 h Q → Met l yX5_codeOf (.code yX5_codeOf cX5_codeOf 2 (some .int) :: xTb) ({ frames := 0, cells := 0, slots := 0, locals := 0 } : Room) (PcA G As h) (QG G (oI Q)) 0 0 (frA G) := by
  intro As a0 a1 h Q hA hw
  refine met_of hA (by decide) (Nat.le_of_ble_eq_true rfl) (fun p e s m args below meth c C hml hr hnm => ?_)
  unfold w_X5_codeOf at hw
  refine aw_aload_n (pc := 0) C dX5_codeOf_0 rfl rfl ?_
  obtain ⟨hp9, b1, hb9, hw⟩ := hw
  refine aw_getR (pc := 1) C (ci := 5) (k := 0) ci5 (by decide) tw43 dX5_codeOf_1 rfl hp9 hb9 ?_
  refine aw_aload_n (pc := 4) C dX5_codeOf_4 rfl rfl ?_
  obtain ⟨hp9, b5, hb9, hw⟩ := hw
  refine aw_getR (pc := 5) C (ci := 5) (k := 1) ci5 (by decide) tw45 dX5_codeOf_5 rfl hp9 hb9 ?_
  refine aw_iload_n (pc := 8) C dX5_codeOf_8 rfl rfl ?_
  obtain ⟨⟨k9, hp9⟩, hw⟩ := hw
  refine aw_iald (pc := 9) C dX5_codeOf_9 hp9 ?_
  obtain ⟨⟨k9, hp9⟩, hw⟩ := hw
  refine aw_iald (pc := 10) C dX5_codeOf_10 hp9 ?_
  exact aw_iret (pc := 11) C hr dX5_codeOf_11 ⟨Nat.le_of_ble_eq_true rfl, Nat.le_of_ble_eq_true rfl⟩ ⟨_, rfl, hw⟩
theorem dX4_text_0 : decode cX4_text 0 = .ok (.iload_n 1, 1) := by decide +kernel
theorem dX4_text_1 : decode cX4_text 1 = .ok (.ifCond .ne 10, 3) := by decide +kernel
theorem dX4_text_4 : decode cX4_text 4 = .ok (.aload_n 0, 1) := by decide +kernel
theorem dX4_text_5 : decode cX4_text 5 = .ok (.getfield 18, 3) := by decide +kernel
theorem dX4_text_8 : decode cX4_text 8 = .ok (.goto 7, 3) := by decide +kernel
theorem dX4_text_11 : decode cX4_text 11 = .ok (.aload_n 0, 1) := by decide +kernel
theorem dX4_text_12 : decode cX4_text 12 = .ok (.getfield 22, 3) := by decide +kernel
theorem dX4_text_15 : decode cX4_text 15 = .ok (.areturn, 1) := by decide +kernel
theorem pd_X4_text : (parseMethodDescriptor yX4_text.desc).map (fun d => d.parameters.length) = some 1 := by decide +kernel
def w_X4_text (zz : Nat → Nat) (a0 : Nat) (a1 : Int) (h : AH) (Q : Nat → AH → Prop) : Prop := jn (fun (t0_15 : Nat) (h_15 : AH) => Q t0_15 h_15) (fun k_15 : Nat → AH → Prop => ((¬ a1 = 0) → okA h a0 4 ∧ ∃ b12 : Nat, hfR h a0 2 = some b12 ∧ k_15 b12 h) ∧ ((a1 = 0) → okA h a0 4 ∧ ∃ b5 : Nat, hfR h a0 1 = some b5 ∧ k_15 b5 h))
set_option maxRecDepth 100000 in
set_option maxHeartbeats 4000000 in
theorem met_X4_text (G : GG) (l : Launch) : ∀ (As : List Value) (a0 : Nat) (a1 : Int) (h : AH) (Q : Nat → AH → Prop), As.map ab = List.map some ([vR a0, vI a1] : List AV) → w_X4_text G.2.2 a0 a1 h Q → Met l yX4_text (.code yX4_text cX4_text 2 (some (.object "TextMorph$Text")) :: xTb) ({ frames := 0, cells := 0, slots := 0, locals := 0 } : Room) (PcA G As h) (QG G (oR Q)) 0 0 (frA G) := by
  intro As a0 a1 h Q hA hw
  refine met_of hA (by decide) (Nat.le_of_ble_eq_true rfl) (fun p e s m args below meth c C hml hr hnm => ?_)
  unfold w_X4_text at hw
  refine aw_iload_n (pc := 0) C dX4_text_0 rfl rfl ?_
  obtain ⟨k_15, hk_15, hw⟩ := jn_out hw
  have J_15 : ∀ (t0_15 : Nat) (h_15 : AH), k_15 t0_15 h_15 → AW G p l e ({ frames := 0, cells := 0, slots := 0, locals := 0 } : Room) s m args below meth c 0 0 (MQ below (QG G (oR Q)) args s 0 0 (frA G)) 15 (eOf []) [vR t0_15] h_15 := by
    intro t0_15 h_15 hw
    rw [hk_15] at hw
    exact aw_aret (pc := 15) C hr dX4_text_15 ⟨Nat.le_of_ble_eq_true rfl, Nat.le_of_ble_eq_true rfl⟩ ⟨_, rfl, hw⟩
  refine aw_if_ne (pc := 1) (tgt := 11) C dX4_text_1 (by decide) (fun hc9 => ?_) (fun hc9 => ?_)
  · have hw := hw.1 hc9
    refine aw_aload_n (pc := 11) C dX4_text_11 rfl rfl ?_
    obtain ⟨hp9, b12, hb9, hw⟩ := hw
    refine aw_getR (pc := 12) C (ci := 4) (k := 2) ci4 (by decide) tw72 dX4_text_12 rfl hp9 hb9 ?_
    refine aw_sub [] trivial ?_
    exact J_15 _ _ hw
  · have hw := hw.2 hc9
    refine aw_aload_n (pc := 4) C dX4_text_4 rfl rfl ?_
    obtain ⟨hp9, b5, hb9, hw⟩ := hw
    refine aw_getR (pc := 5) C (ci := 4) (k := 1) ci4 (by decide) tw71 dX4_text_5 rfl hp9 hb9 ?_
    refine aw_goto (pc := 8) (tgt := 15) C dX4_text_8 (by decide) ?_
    refine aw_sub [] trivial ?_
    exact J_15 _ _ hw
theorem dX3_distance_0 : decode cX3_distance 0 = .ok (.aload_n 0, 1) := by decide +kernel
theorem dX3_distance_1 : decode cX3_distance 1 = .ok (.getfield 30, 3) := by decide +kernel
theorem dX3_distance_4 : decode cX3_distance 4 = .ok (.iconst 0, 1) := by decide +kernel
theorem dX3_distance_5 : decode cX3_distance 5 = .ok (.invokevirtual 49, 3) := by decide +kernel
theorem dX3_distance_8 : decode cX3_distance 8 = .ok (.iload_n 1, 1) := by decide +kernel
theorem dX3_distance_9 : decode cX3_distance 9 = .ok (.invokevirtual 53, 3) := by decide +kernel
theorem dX3_distance_12 : decode cX3_distance 12 = .ok (.aload_n 0, 1) := by decide +kernel
theorem dX3_distance_13 : decode cX3_distance 13 = .ok (.getfield 30, 3) := by decide +kernel
theorem dX3_distance_16 : decode cX3_distance 16 = .ok (.iconst 1, 1) := by decide +kernel
theorem dX3_distance_17 : decode cX3_distance 17 = .ok (.invokevirtual 49, 3) := by decide +kernel
theorem dX3_distance_20 : decode cX3_distance 20 = .ok (.iload_n 2, 1) := by decide +kernel
theorem dX3_distance_21 : decode cX3_distance 21 = .ok (.invokevirtual 53, 3) := by decide +kernel
theorem dX3_distance_24 : decode cX3_distance 24 = .ok (.isub, 1) := by decide +kernel
theorem dX3_distance_25 : decode cX3_distance 25 = .ok (.invokestatic 59, 3) := by decide +kernel
theorem dX3_distance_28 : decode cX3_distance 28 = .ok (.istore_n 3, 1) := by decide +kernel
theorem dX3_distance_29 : decode cX3_distance 29 = .ok (.aload_n 0, 1) := by decide +kernel
theorem dX3_distance_30 : decode cX3_distance 30 = .ok (.getfield 30, 3) := by decide +kernel
theorem dX3_distance_33 : decode cX3_distance 33 = .ok (.iconst 0, 1) := by decide +kernel
theorem dX3_distance_34 : decode cX3_distance 34 = .ok (.invokevirtual 49, 3) := by decide +kernel
theorem dX3_distance_37 : decode cX3_distance 37 = .ok (.iload_n 1, 1) := by decide +kernel
theorem dX3_distance_38 : decode cX3_distance 38 = .ok (.invokevirtual 64, 3) := by decide +kernel
theorem dX3_distance_41 : decode cX3_distance 41 = .ok (.aload_n 0, 1) := by decide +kernel
theorem dX3_distance_42 : decode cX3_distance 42 = .ok (.getfield 30, 3) := by decide +kernel
theorem dX3_distance_45 : decode cX3_distance 45 = .ok (.iconst 1, 1) := by decide +kernel
theorem dX3_distance_46 : decode cX3_distance 46 = .ok (.invokevirtual 49, 3) := by decide +kernel
theorem dX3_distance_49 : decode cX3_distance 49 = .ok (.iload_n 2, 1) := by decide +kernel
theorem dX3_distance_50 : decode cX3_distance 50 = .ok (.invokevirtual 64, 3) := by decide +kernel
theorem dX3_distance_53 : decode cX3_distance 53 = .ok (.isub, 1) := by decide +kernel
theorem dX3_distance_54 : decode cX3_distance 54 = .ok (.invokestatic 59, 3) := by decide +kernel
theorem dX3_distance_57 : decode cX3_distance 57 = .ok (.istore 4, 2) := by decide +kernel
theorem dX3_distance_59 : decode cX3_distance 59 = .ok (.iload_n 3, 1) := by decide +kernel
theorem dX3_distance_60 : decode cX3_distance 60 = .ok (.aload_n 0, 1) := by decide +kernel
theorem dX3_distance_61 : decode cX3_distance 61 = .ok (.getfield 30, 3) := by decide +kernel
theorem dX3_distance_64 : decode cX3_distance 64 = .ok (.getfield 40, 3) := by decide +kernel
theorem dX3_distance_67 : decode cX3_distance 67 = .ok (.iconst 0, 1) := by decide +kernel
theorem dX3_distance_68 : decode cX3_distance 68 = .ok (.iaload, 1) := by decide +kernel
theorem dX3_distance_69 : decode cX3_distance 69 = .ok (.iload 4, 2) := by decide +kernel
theorem dX3_distance_71 : decode cX3_distance 71 = .ok (.imul, 1) := by decide +kernel
theorem dX3_distance_72 : decode cX3_distance 72 = .ok (.iadd, 1) := by decide +kernel
theorem dX3_distance_73 : decode cX3_distance 73 = .ok (.ireturn, 1) := by decide +kernel
theorem pd_X3_distance : (parseMethodDescriptor yX3_distance.desc).map (fun d => d.parameters.length) = some 2 := by decide +kernel
def w_X3_distance (zz : Nat → Nat) (a0 : Nat) (a1 : Int) (a2 : Int) (h : AH) (Q : Int → AH → Prop) : Prop := okA h a0 3 ∧ ∃ b1 : Nat, hfR h a0 5 = some b1 ∧ okA h b1 4 ∧ w_X4_text zz b1 (0 : Int) h (fun (r5 : Nat) (h5 : AH) => okA h5 r5 5 ∧ w_X5_columnOf zz r5 a1 h5 (fun (r9 : Int) (h9 : AH) => okA h9 a0 3 ∧ ∃ b13 : Nat, hfR h9 a0 5 = some b13 ∧ okA h9 b13 4 ∧ w_X4_text zz b13 (1 : Int) h9 (fun (r17 : Nat) (h17 : AH) => okA h17 r17 5 ∧ w_X5_columnOf zz r17 a2 h17 (fun (r21 : Int) (h21 : AH) => inR (r9 - r21) ∧ inR (0 - (r9 - r21)) ∧ ∀ x3_28 : Int, x3_28 = (if 0 ≤ (r9 - r21) then (r9 - r21) else 0 - (r9 - r21)) → okA h21 a0 3 ∧ ∃ b30 : Nat, hfR h21 a0 5 = some b30 ∧ okA h21 b30 4 ∧ w_X4_text zz b30 (0 : Int) h21 (fun (r34 : Nat) (h34 : AH) => okA h34 r34 5 ∧ w_X5_rowOf zz r34 a1 h34 (fun (r38 : Int) (h38 : AH) => okA h38 a0 3 ∧ ∃ b42 : Nat, hfR h38 a0 5 = some b42 ∧ okA h38 b42 4 ∧ w_X4_text zz b42 (1 : Int) h38 (fun (r46 : Nat) (h46 : AH) => okA h46 r46 5 ∧ w_X5_rowOf zz r46 a2 h46 (fun (r50 : Int) (h50 : AH) => inR (r38 - r50) ∧ inR (0 - (r38 - r50)) ∧ ∀ x4_57 : Int, x4_57 = (if 0 ≤ (r38 - r50) then (r38 - r50) else 0 - (r38 - r50)) → okA h50 a0 3 ∧ ∃ b61 : Nat, hfR h50 a0 5 = some b61 ∧ okA h50 b61 4 ∧ ∃ b64 : Nat, hfR h50 b61 0 = some b64 ∧ okI h50 b64 (0 : Int) ∧ inR ((haI h50 b64 (0 : Int)) * x4_57) ∧ inR (x3_28 + ((haI h50 b64 (0 : Int)) * x4_57)) ∧ Q (x3_28 + ((haI h50 b64 (0 : Int)) * x4_57)) h50))))))))
set_option maxRecDepth 100000 in
set_option maxHeartbeats 4000000 in
theorem met_X3_distance (G : GG) (l : Launch) : ∀ (As : List Value) (a0 : Nat) (a1 : Int) (a2 : Int) (h : AH) (Q : Int → AH → Prop), As.map ab = List.map some ([vR a0, vI a1, vI a2] : List AV) → w_X3_distance G.2.2 a0 a1 a2 h Q → Met l yX3_distance (.code yX3_distance cX3_distance 5 (some .int) :: xTb) ({ frames := 1, cells := 0, slots := 0, locals := 21 } : Room) (PcA G As h) (QG G (oI Q)) 0 0 (frA G) := by
  intro As a0 a1 a2 h Q hA hw
  refine met_of hA (by decide) (Nat.le_of_ble_eq_true rfl) (fun p e s m args below meth c C hml hr hnm => ?_)
  unfold w_X3_distance at hw
  refine aw_aload_n (pc := 0) C dX3_distance_0 rfl rfl ?_
  obtain ⟨hp9, b1, hb9, hw⟩ := hw
  refine aw_getR (pc := 1) C (ci := 3) (k := 5) ci3 (by decide) tw105 dX3_distance_1 rfl hp9 hb9 ?_
  refine aw_iconst (pc := 4) C dX3_distance_4 (i := (0 : Int)) (by decide) ?_
  obtain ⟨hp9, hw⟩ := hw
  refine aw_callV (pc := 5) (as := [vI (0 : Int)]) C ci4 (fun As hA => met_X4_text G l As b1 (0 : Int) _ _ hA hw) tw302 tw266 tw267 tw2 tw268 ⟨rfl, rfl⟩ ⟨rfl, by decide, by decide, pd_X4_text⟩ ⟨Nat.le_of_ble_eq_true rfl, Nat.le_of_ble_eq_true rfl⟩ ⟨Nat.zero_le _, Nat.zero_le _⟩ (Nat.le_of_ble_eq_true rfl) dX3_distance_5 rfl hp9 (fun v9 h5 hq9 => ?_)
  obtain ⟨r5, rfl, hw⟩ := hq9
  refine aw_iload_n (pc := 8) C dX3_distance_8 rfl rfl ?_
  obtain ⟨hp9, hw⟩ := hw
  refine aw_callV (pc := 9) (as := [vI a1]) C ci5 (fun As hA => met_X5_columnOf G l As r5 a1 _ _ hA hw) tw342 tw343 tw344 tw3 tw345 ⟨rfl, rfl⟩ ⟨rfl, by decide, by decide, pd_X5_columnOf⟩ ⟨Nat.le_of_ble_eq_true rfl, Nat.le_of_ble_eq_true rfl⟩ ⟨Nat.zero_le _, Nat.zero_le _⟩ (Nat.le_of_ble_eq_true rfl) dX3_distance_9 rfl hp9 (fun v9 h9 hq9 => ?_)
  obtain ⟨r9, rfl, hw⟩ := hq9
  refine aw_aload_n (pc := 12) C dX3_distance_12 rfl rfl ?_
  obtain ⟨hp9, b13, hb9, hw⟩ := hw
  refine aw_getR (pc := 13) C (ci := 3) (k := 5) ci3 (by decide) tw105 dX3_distance_13 rfl hp9 hb9 ?_
  refine aw_iconst (pc := 16) C dX3_distance_16 (i := (1 : Int)) (by decide) ?_
  obtain ⟨hp9, hw⟩ := hw
  refine aw_callV (pc := 17) (as := [vI (1 : Int)]) C ci4 (fun As hA => met_X4_text G l As b13 (1 : Int) _ _ hA hw) tw302 tw266 tw267 tw2 tw268 ⟨rfl, rfl⟩ ⟨rfl, by decide, by decide, pd_X4_text⟩ ⟨Nat.le_of_ble_eq_true rfl, Nat.le_of_ble_eq_true rfl⟩ ⟨Nat.zero_le _, Nat.zero_le _⟩ (Nat.le_of_ble_eq_true rfl) dX3_distance_17 rfl hp9 (fun v9 h17 hq9 => ?_)
  obtain ⟨r17, rfl, hw⟩ := hq9
  refine aw_iload_n (pc := 20) C dX3_distance_20 rfl rfl ?_
  obtain ⟨hp9, hw⟩ := hw
  refine aw_callV (pc := 21) (as := [vI a2]) C ci5 (fun As hA => met_X5_columnOf G l As r17 a2 _ _ hA hw) tw342 tw343 tw344 tw3 tw345 ⟨rfl, rfl⟩ ⟨rfl, by decide, by decide, pd_X5_columnOf⟩ ⟨Nat.le_of_ble_eq_true rfl, Nat.le_of_ble_eq_true rfl⟩ ⟨Nat.zero_le _, Nat.zero_le _⟩ (Nat.le_of_ble_eq_true rfl) dX3_distance_21 rfl hp9 (fun v9 h21 hq9 => ?_)
  obtain ⟨r21, rfl, hw⟩ := hq9
  obtain ⟨hp9, hw⟩ := hw
  refine aw_isub (pc := 24) C dX3_distance_24 hp9 ?_
  obtain ⟨hp9, hw⟩ := hw
  refine aw_mabs (pc := 25) C tw346 tw347 tw17 tw348 ⟨Nat.le_of_ble_eq_true rfl, Nat.le_of_ble_eq_true rfl, Nat.zero_le _, Nat.zero_le _⟩ (Nat.le_of_ble_eq_true rfl) dX3_distance_25 hp9 ?_
  refine aw_nmI (fun x3_28 e9 => ?_)
  have hw := hw x3_28 e9
  refine aw_istore_n (pc := 28) C dX3_distance_28 rfl (by rw [hml]; decide) ?_
  refine aw_aload_n (pc := 29) C dX3_distance_29 rfl rfl ?_
  obtain ⟨hp9, b30, hb9, hw⟩ := hw
  refine aw_getR (pc := 30) C (ci := 3) (k := 5) ci3 (by decide) tw105 dX3_distance_30 rfl hp9 hb9 ?_
  refine aw_iconst (pc := 33) C dX3_distance_33 (i := (0 : Int)) (by decide) ?_
  obtain ⟨hp9, hw⟩ := hw
  refine aw_callV (pc := 34) (as := [vI (0 : Int)]) C ci4 (fun As hA => met_X4_text G l As b30 (0 : Int) _ _ hA hw) tw302 tw266 tw267 tw2 tw268 ⟨rfl, rfl⟩ ⟨rfl, by decide, by decide, pd_X4_text⟩ ⟨Nat.le_of_ble_eq_true rfl, Nat.le_of_ble_eq_true rfl⟩ ⟨Nat.zero_le _, Nat.zero_le _⟩ (Nat.le_of_ble_eq_true rfl) dX3_distance_34 rfl hp9 (fun v9 h34 hq9 => ?_)
  obtain ⟨r34, rfl, hw⟩ := hq9
  refine aw_iload_n (pc := 37) C dX3_distance_37 rfl rfl ?_
  obtain ⟨hp9, hw⟩ := hw
  refine aw_callV (pc := 38) (as := [vI a1]) C ci5 (fun As hA => met_X5_rowOf G l As r34 a1 _ _ hA hw) tw334 tw335 tw336 tw3 tw337 ⟨rfl, rfl⟩ ⟨rfl, by decide, by decide, pd_X5_rowOf⟩ ⟨Nat.le_of_ble_eq_true rfl, Nat.le_of_ble_eq_true rfl⟩ ⟨Nat.zero_le _, Nat.zero_le _⟩ (Nat.le_of_ble_eq_true rfl) dX3_distance_38 rfl hp9 (fun v9 h38 hq9 => ?_)
  obtain ⟨r38, rfl, hw⟩ := hq9
  refine aw_aload_n (pc := 41) C dX3_distance_41 rfl rfl ?_
  obtain ⟨hp9, b42, hb9, hw⟩ := hw
  refine aw_getR (pc := 42) C (ci := 3) (k := 5) ci3 (by decide) tw105 dX3_distance_42 rfl hp9 hb9 ?_
  refine aw_iconst (pc := 45) C dX3_distance_45 (i := (1 : Int)) (by decide) ?_
  obtain ⟨hp9, hw⟩ := hw
  refine aw_callV (pc := 46) (as := [vI (1 : Int)]) C ci4 (fun As hA => met_X4_text G l As b42 (1 : Int) _ _ hA hw) tw302 tw266 tw267 tw2 tw268 ⟨rfl, rfl⟩ ⟨rfl, by decide, by decide, pd_X4_text⟩ ⟨Nat.le_of_ble_eq_true rfl, Nat.le_of_ble_eq_true rfl⟩ ⟨Nat.zero_le _, Nat.zero_le _⟩ (Nat.le_of_ble_eq_true rfl) dX3_distance_46 rfl hp9 (fun v9 h46 hq9 => ?_)
  obtain ⟨r46, rfl, hw⟩ := hq9
  refine aw_iload_n (pc := 49) C dX3_distance_49 rfl rfl ?_
  obtain ⟨hp9, hw⟩ := hw
  refine aw_callV (pc := 50) (as := [vI a2]) C ci5 (fun As hA => met_X5_rowOf G l As r46 a2 _ _ hA hw) tw334 tw335 tw336 tw3 tw337 ⟨rfl, rfl⟩ ⟨rfl, by decide, by decide, pd_X5_rowOf⟩ ⟨Nat.le_of_ble_eq_true rfl, Nat.le_of_ble_eq_true rfl⟩ ⟨Nat.zero_le _, Nat.zero_le _⟩ (Nat.le_of_ble_eq_true rfl) dX3_distance_50 rfl hp9 (fun v9 h50 hq9 => ?_)
  obtain ⟨r50, rfl, hw⟩ := hq9
  obtain ⟨hp9, hw⟩ := hw
  refine aw_isub (pc := 53) C dX3_distance_53 hp9 ?_
  obtain ⟨hp9, hw⟩ := hw
  refine aw_mabs (pc := 54) C tw346 tw347 tw17 tw348 ⟨Nat.le_of_ble_eq_true rfl, Nat.le_of_ble_eq_true rfl, Nat.zero_le _, Nat.zero_le _⟩ (Nat.le_of_ble_eq_true rfl) dX3_distance_54 hp9 ?_
  refine aw_nmI (fun x4_57 e9 => ?_)
  have hw := hw x4_57 e9
  refine aw_istore (pc := 57) C dX3_distance_57 (by rw [hml]; decide) ?_
  refine aw_iload_n (pc := 59) C dX3_distance_59 rfl rfl ?_
  refine aw_aload_n (pc := 60) C dX3_distance_60 rfl rfl ?_
  obtain ⟨hp9, b61, hb9, hw⟩ := hw
  refine aw_getR (pc := 61) C (ci := 3) (k := 5) ci3 (by decide) tw105 dX3_distance_61 rfl hp9 hb9 ?_
  obtain ⟨hp9, b64, hb9, hw⟩ := hw
  refine aw_getR (pc := 64) C (ci := 4) (k := 0) ci4 (by decide) tw68 dX3_distance_64 rfl hp9 hb9 ?_
  refine aw_iconst (pc := 67) C dX3_distance_67 (i := (0 : Int)) (by decide) ?_
  obtain ⟨⟨k9, hp9⟩, hw⟩ := hw
  refine aw_iald (pc := 68) C dX3_distance_68 hp9 ?_
  refine aw_iload (pc := 69) C dX3_distance_69 rfl ?_
  obtain ⟨hp9, hw⟩ := hw
  refine aw_imul (pc := 71) C dX3_distance_71 hp9 ?_
  obtain ⟨hp9, hw⟩ := hw
  refine aw_iadd (pc := 72) C dX3_distance_72 hp9 ?_
  exact aw_iret (pc := 73) C hr dX3_distance_73 ⟨Nat.le_of_ble_eq_true rfl, Nat.le_of_ble_eq_true rfl⟩ ⟨_, rfl, hw⟩
theorem dX5_clear_0 : decode cX5_clear 0 = .ok (.aload_n 0, 1) := by decide +kernel
theorem dX5_clear_1 : decode cX5_clear 1 = .ok (.getfield 9, 3) := by decide +kernel
theorem dX5_clear_4 : decode cX5_clear 4 = .ok (.bipush 32, 2) := by decide +kernel
theorem dX5_clear_6 : decode cX5_clear 6 = .ok (.invokestatic 22, 3) := by decide +kernel
theorem dX5_clear_9 : decode cX5_clear 9 = .ok (.aload_n 0, 1) := by decide +kernel
theorem dX5_clear_10 : decode cX5_clear 10 = .ok (.iconst 0, 1) := by decide +kernel
theorem dX5_clear_11 : decode cX5_clear 11 = .ok (.putfield 18, 3) := by decide +kernel
theorem dX5_clear_14 : decode cX5_clear 14 = .ok (.return_, 1) := by decide +kernel
theorem pd_X5_clear : (parseMethodDescriptor yX5_clear.desc).map (fun d => d.parameters.length) = some 0 := by decide +kernel
def w_X5_clear (zz : Nat → Nat) (a0 : Nat) (h : AH) (Q : AH → Prop) : Prop := okA h a0 5 ∧ ∃ b1 : Nat, hfR h a0 0 = some b1 ∧ w_J7_fill_53178 zz b1 (32 : Int) h (fun  (h6 : AH) => okP h6 a0 5 ∧ ∀ h11 : AH, h11 = sfI h6 a0 2 (0 : Int) → Q h11)
set_option maxRecDepth 100000 in
set_option maxHeartbeats 4000000 in
theorem met_X5_clear (G : GG) (l : Launch) : ∀ (As : List Value) (a0 : Nat) (h : AH) (Q : AH → Prop), As.map ab = List.map some ([vR a0] : List AV) → w_X5_clear G.2.2 a0 h Q → Met l yX5_clear (.code yX5_clear cX5_clear 1 none :: xTb) ({ frames := 1, cells := 0, slots := 0, locals := 23 } : Room) (PcA G As h) (QG G (oV Q)) 0 0 (frA G) := by
  intro As a0 h Q hA hw
  refine met_of hA (by decide) (Nat.le_of_ble_eq_true rfl) (fun p e s m args below meth c C hml hr hnm => ?_)
  unfold w_X5_clear at hw
  refine aw_aload_n (pc := 0) C dX5_clear_0 rfl rfl ?_
  obtain ⟨hp9, b1, hb9, hw⟩ := hw
  refine aw_getR (pc := 1) C (ci := 5) (k := 0) ci5 (by decide) tw43 dX5_clear_1 rfl hp9 hb9 ?_
  refine aw_bipush (pc := 4) C dX5_clear_4 (i := (32 : Int)) (by decide) ?_
  refine aw_callS (pc := 6) (as := [vR b1, vI (32 : Int)]) C (fun As hA => met_J7_fill_53178 G l As b1 (32 : Int) _ _ hA hw) tw40 tw41 tw4 tw42 ⟨rfl, rfl⟩ ⟨by decide, by decide, pd_J7_fill_53178⟩ ⟨Nat.le_of_ble_eq_true rfl, Nat.le_of_ble_eq_true rfl⟩ ⟨Nat.zero_le _, Nat.zero_le _⟩ (Nat.le_of_ble_eq_true rfl) dX5_clear_6 rfl (fun v9 h6 hq9 => ?_)
  obtain ⟨rfl, hw⟩ := hq9
  refine aw_aload_n (pc := 9) C dX5_clear_9 rfl rfl ?_
  refine aw_iconst (pc := 10) C dX5_clear_10 (i := (0 : Int)) (by decide) ?_
  obtain ⟨hp9, hw⟩ := hw
  refine aw_putI (pc := 11) C (ci := 5) (k := 2) ci5 (by decide) tw48 (Or.inl rfl) dX5_clear_11 rfl hp9 (aw_nmH (fun h11 e9 => ?_))
  have hw := hw h11 e9
  exact aw_vret (pc := 14) C hr dX5_clear_14 ⟨Nat.le_of_ble_eq_true rfl, Nat.le_of_ble_eq_true rfl⟩ ⟨rfl, hw⟩
theorem dX5_numberLetters_0 : decode cX5_numberLetters 0 = .ok (.aload_n 0, 1) := by decide +kernel
theorem dX5_numberLetters_1 : decode cX5_numberLetters 1 = .ok (.iconst 0, 1) := by decide +kernel
theorem dX5_numberLetters_2 : decode cX5_numberLetters 2 = .ok (.putfield 18, 3) := by decide +kernel
theorem dX5_numberLetters_5 : decode cX5_numberLetters 5 = .ok (.iconst 0, 1) := by decide +kernel
theorem dX5_numberLetters_6 : decode cX5_numberLetters 6 = .ok (.istore_n 1, 1) := by decide +kernel
theorem dX5_numberLetters_7 : decode cX5_numberLetters 7 = .ok (.iload_n 1, 1) := by decide +kernel
theorem dX5_numberLetters_8 : decode cX5_numberLetters 8 = .ok (.bipush 80, 2) := by decide +kernel
theorem dX5_numberLetters_10 : decode cX5_numberLetters 10 = .ok (.if_icmp .ge 49, 3) := by decide +kernel
theorem dX5_numberLetters_13 : decode cX5_numberLetters 13 = .ok (.aload_n 0, 1) := by decide +kernel
theorem dX5_numberLetters_14 : decode cX5_numberLetters 14 = .ok (.getfield 9, 3) := by decide +kernel
theorem dX5_numberLetters_17 : decode cX5_numberLetters 17 = .ok (.iload_n 1, 1) := by decide +kernel
theorem dX5_numberLetters_18 : decode cX5_numberLetters 18 = .ok (.iaload, 1) := by decide +kernel
theorem dX5_numberLetters_19 : decode cX5_numberLetters 19 = .ok (.bipush 32, 2) := by decide +kernel
theorem dX5_numberLetters_21 : decode cX5_numberLetters 21 = .ok (.if_icmp .eq 32, 3) := by decide +kernel
theorem dX5_numberLetters_24 : decode cX5_numberLetters 24 = .ok (.aload_n 0, 1) := by decide +kernel
theorem dX5_numberLetters_25 : decode cX5_numberLetters 25 = .ok (.getfield 18, 3) := by decide +kernel
theorem dX5_numberLetters_28 : decode cX5_numberLetters 28 = .ok (.bipush 40, 2) := by decide +kernel
theorem dX5_numberLetters_30 : decode cX5_numberLetters 30 = .ok (.if_icmp .ge 23, 3) := by decide +kernel
theorem dX5_numberLetters_33 : decode cX5_numberLetters 33 = .ok (.aload_n 0, 1) := by decide +kernel
theorem dX5_numberLetters_34 : decode cX5_numberLetters 34 = .ok (.getfield 15, 3) := by decide +kernel
theorem dX5_numberLetters_37 : decode cX5_numberLetters 37 = .ok (.aload_n 0, 1) := by decide +kernel
theorem dX5_numberLetters_38 : decode cX5_numberLetters 38 = .ok (.getfield 18, 3) := by decide +kernel
theorem dX5_numberLetters_41 : decode cX5_numberLetters 41 = .ok (.iload_n 1, 1) := by decide +kernel
theorem dX5_numberLetters_42 : decode cX5_numberLetters 42 = .ok (.iastore, 1) := by decide +kernel
theorem dX5_numberLetters_43 : decode cX5_numberLetters 43 = .ok (.aload_n 0, 1) := by decide +kernel
theorem dX5_numberLetters_44 : decode cX5_numberLetters 44 = .ok (.dup, 1) := by decide +kernel
theorem dX5_numberLetters_45 : decode cX5_numberLetters 45 = .ok (.getfield 18, 3) := by decide +kernel
theorem dX5_numberLetters_48 : decode cX5_numberLetters 48 = .ok (.iconst 1, 1) := by decide +kernel
theorem dX5_numberLetters_49 : decode cX5_numberLetters 49 = .ok (.iadd, 1) := by decide +kernel
theorem dX5_numberLetters_50 : decode cX5_numberLetters 50 = .ok (.putfield 18, 3) := by decide +kernel
theorem dX5_numberLetters_53 : decode cX5_numberLetters 53 = .ok (.iinc 1 1, 3) := by decide +kernel
theorem dX5_numberLetters_56 : decode cX5_numberLetters 56 = .ok (.goto (-49), 3) := by decide +kernel
theorem dX5_numberLetters_59 : decode cX5_numberLetters 59 = .ok (.return_, 1) := by decide +kernel
theorem pd_X5_numberLetters : (parseMethodDescriptor yX5_numberLetters.desc).map (fun d => d.parameters.length) = some 0 := by decide +kernel
def w_X5_numberLetters (zz : Nat → Nat) (a0 : Nat) (h : AH) (Q : AH → Prop) : Prop := okP h a0 5 ∧ ∀ h2 : AH, h2 = sfI h a0 2 (0 : Int) → ∃ I_7 : Nat → Int → AH → Prop, (∃ n, I_7 n (0 : Int) h2) ∧ ∀ (n_7 : Nat) (x1_7 : Int) (h_7 : AH), I_7 n_7 x1_7 h_7 → ((((80 : Int) ≤ x1_7) → Q h_7) ∧ ((¬ ((80 : Int) ≤ x1_7)) → okA h_7 a0 5 ∧ ∃ b14 : Nat, hfR h_7 a0 0 = some b14 ∧ okI h_7 b14 x1_7 ∧ jn (fun  (h_53 : AH) => inR (x1_7 + 1) ∧ ∀ x1_53 : Int, x1_53 = (x1_7 + 1) → ∃ m, m < n_7 ∧ I_7 m x1_53 h_53) (fun k_53 : AH → Prop => (((haI h_7 b14 x1_7) = (32 : Int)) → k_53  h_7) ∧ ((¬ ((haI h_7 b14 x1_7) = (32 : Int))) → okA h_7 a0 5 ∧ (((40 : Int) ≤ (hfI h_7 a0 2)) → k_53  h_7) ∧ ((¬ ((40 : Int) ≤ (hfI h_7 a0 2))) → okA h_7 a0 5 ∧ ∃ b34 : Nat, hfR h_7 a0 1 = some b34 ∧ okA h_7 a0 5 ∧ okW h_7 b34 (hfI h_7 a0 2) ∧ ∀ h42 : AH, h42 = saI h_7 b34 (u1 (haI h_7 b34) (hfI h_7 a0 2) x1_7) → okA h42 a0 5 ∧ inR ((hfI h42 a0 2) + (1 : Int)) ∧ okP h42 a0 5 ∧ ∀ h50 : AH, h50 = sfI h42 a0 2 ((hfI h42 a0 2) + (1 : Int)) → k_53  h50)))))
set_option maxRecDepth 100000 in
set_option maxHeartbeats 4000000 in
theorem met_X5_numberLetters (G : GG) (l : Launch) : ∀ (As : List Value) (a0 : Nat) (h : AH) (Q : AH → Prop), As.map ab = List.map some ([vR a0] : List AV) → w_X5_numberLetters G.2.2 a0 h Q → Met l yX5_numberLetters (.code yX5_numberLetters cX5_numberLetters 2 none :: xTb) ({ frames := 0, cells := 0, slots := 0, locals := 0 } : Room) (PcA G As h) (QG G (oV Q)) 0 0 (frA G) := by
  intro As a0 h Q hA hw
  refine met_of hA (by decide) (Nat.le_of_ble_eq_true rfl) (fun p e s m args below meth c C hml hr hnm => ?_)
  unfold w_X5_numberLetters at hw
  refine aw_aload_n (pc := 0) C dX5_numberLetters_0 rfl rfl ?_
  refine aw_iconst (pc := 1) C dX5_numberLetters_1 (i := (0 : Int)) (by decide) ?_
  obtain ⟨hp9, hw⟩ := hw
  refine aw_putI (pc := 2) C (ci := 5) (k := 2) ci5 (by decide) tw48 (Or.inl rfl) dX5_numberLetters_2 rfl hp9 (aw_nmH (fun h2 e9 => ?_))
  have hw := hw h2 e9
  refine aw_iconst (pc := 5) C dX5_numberLetters_5 (i := (0 : Int)) (by decide) ?_
  refine aw_istore_n (pc := 6) C dX5_numberLetters_6 rfl (by rw [hml]; decide) ?_
  obtain ⟨I_7, ⟨n9, hi9⟩, hst9⟩ := hw
  have L_7 : ∀ (n_7 : Nat) (x1_7 : Int) (h_7 : AH), I_7 n_7 x1_7 h_7 → AW G p l e ({ frames := 0, cells := 0, slots := 0, locals := 0 } : Room) s m args below meth c 0 0 (MQ below (QG G (oV Q)) args s 0 0 (frA G)) 7 (eOf [(0, vR a0), (1, vI x1_7)]) [] h_7 := by
    intro n_7
    induction n_7 using Nat.strongRecOn with
    | _ n_7 ih_7 =>
    intro x1_7 h_7 hi9
    have hw := hst9 n_7 x1_7 h_7 hi9
    refine aw_iload_n (pc := 7) C dX5_numberLetters_7 rfl rfl ?_
    refine aw_bipush (pc := 8) C dX5_numberLetters_8 (i := (80 : Int)) (by decide) ?_
    refine aw_icmp_ge (pc := 10) (tgt := 59) C dX5_numberLetters_10 (by decide) (fun hc9 => ?_) (fun hc9 => ?_)
    · have hw := hw.1 hc9
      exact aw_vret (pc := 59) C hr dX5_numberLetters_59 ⟨Nat.le_of_ble_eq_true rfl, Nat.le_of_ble_eq_true rfl⟩ ⟨rfl, hw⟩
    · have hw := hw.2 hc9
      refine aw_aload_n (pc := 13) C dX5_numberLetters_13 rfl rfl ?_
      obtain ⟨hp9, b14, hb9, hw⟩ := hw
      refine aw_getR (pc := 14) C (ci := 5) (k := 0) ci5 (by decide) tw43 dX5_numberLetters_14 rfl hp9 hb9 ?_
      refine aw_iload_n (pc := 17) C dX5_numberLetters_17 rfl rfl ?_
      obtain ⟨⟨k9, hp9⟩, hw⟩ := hw
      refine aw_iald (pc := 18) C dX5_numberLetters_18 hp9 ?_
      refine aw_bipush (pc := 19) C dX5_numberLetters_19 (i := (32 : Int)) (by decide) ?_
      obtain ⟨k_53, hk_53, hw⟩ := jn_out hw
      have J_53 : ∀  (h_53 : AH), k_53  h_53 → AW G p l e ({ frames := 0, cells := 0, slots := 0, locals := 0 } : Room) s m args below meth c 0 0 (MQ below (QG G (oV Q)) args s 0 0 (frA G)) 53 (eOf [(0, vR a0), (1, vI x1_7)]) [] h_53 := by
        intro  h_53 hw
        rw [hk_53] at hw
        obtain ⟨hp9, hw⟩ := hw
        refine aw_iincN (pc := 53) C dX5_numberLetters_53 (k := 1) (by decide) rfl (by rw [hml]; decide) hp9 (fun x1_53 e9 => ?_)
        have hw := hw x1_53 e9
        refine aw_goto (pc := 56) (tgt := 7) C dX5_numberLetters_56 (by decide) ?_
        obtain ⟨m9, hm9, hw⟩ := hw
        refine aw_sub [(0, vR a0), (1, vI x1_53)] ⟨rfl, rfl, trivial⟩ ?_
        exact ih_7 m9 hm9 _ _ hw
      refine aw_icmp_eq (pc := 21) (tgt := 53) C dX5_numberLetters_21 (by decide) (fun hc9 => ?_) (fun hc9 => ?_)
      · have hw := hw.1 hc9
        refine aw_sub [(0, vR a0), (1, vI x1_7)] ⟨rfl, rfl, trivial⟩ ?_
        exact J_53  _ hw
      · have hw := hw.2 hc9
        refine aw_aload_n (pc := 24) C dX5_numberLetters_24 rfl rfl ?_
        obtain ⟨hp9, hw⟩ := hw
        refine aw_getI (pc := 25) C (ci := 5) (k := 2) ci5 (by decide) tw48 dX5_numberLetters_25 rfl hp9 ?_
        refine aw_bipush (pc := 28) C dX5_numberLetters_28 (i := (40 : Int)) (by decide) ?_
        refine aw_icmp_ge (pc := 30) (tgt := 53) C dX5_numberLetters_30 (by decide) (fun hc9 => ?_) (fun hc9 => ?_)
        · have hw := hw.1 hc9
          refine aw_sub [(0, vR a0), (1, vI x1_7)] ⟨rfl, rfl, trivial⟩ ?_
          exact J_53  _ hw
        · have hw := hw.2 hc9
          refine aw_aload_n (pc := 33) C dX5_numberLetters_33 rfl rfl ?_
          obtain ⟨hp9, b34, hb9, hw⟩ := hw
          refine aw_getR (pc := 34) C (ci := 5) (k := 1) ci5 (by decide) tw45 dX5_numberLetters_34 rfl hp9 hb9 ?_
          refine aw_aload_n (pc := 37) C dX5_numberLetters_37 rfl rfl ?_
          obtain ⟨hp9, hw⟩ := hw
          refine aw_getI (pc := 38) C (ci := 5) (k := 2) ci5 (by decide) tw48 dX5_numberLetters_38 rfl hp9 ?_
          refine aw_iload_n (pc := 41) C dX5_numberLetters_41 rfl rfl ?_
          obtain ⟨⟨k9, hp9⟩, hw⟩ := hw
          refine aw_iast (pc := 42) C dX5_numberLetters_42 hp9 (aw_nmH (fun h42 e9 => ?_))
          have hw := hw h42 e9
          refine aw_aload_n (pc := 43) C dX5_numberLetters_43 rfl rfl ?_
          refine aw_dup (pc := 44) C dX5_numberLetters_44 rfl ?_
          obtain ⟨hp9, hw⟩ := hw
          refine aw_getI (pc := 45) C (ci := 5) (k := 2) ci5 (by decide) tw48 dX5_numberLetters_45 rfl hp9 ?_
          refine aw_iconst (pc := 48) C dX5_numberLetters_48 (i := (1 : Int)) (by decide) ?_
          obtain ⟨hp9, hw⟩ := hw
          refine aw_iadd (pc := 49) C dX5_numberLetters_49 hp9 ?_
          obtain ⟨hp9, hw⟩ := hw
          refine aw_putI (pc := 50) C (ci := 5) (k := 2) ci5 (by decide) tw48 (Or.inl rfl) dX5_numberLetters_50 rfl hp9 (aw_nmH (fun h50 e9 => ?_))
          have hw := hw h50 e9
          refine aw_sub [(0, vR a0), (1, vI x1_7)] ⟨rfl, rfl, trivial⟩ ?_
          exact J_53  _ hw
  refine aw_sub [(0, vR a0), (1, vI (0 : Int))] ⟨rfl, rfl, trivial⟩ ?_
  exact L_7 n9 _ _ hi9
theorem dX5_write_0 : decode cX5_write 0 = .ok (.aload_n 0, 1) := by decide +kernel
theorem dX5_write_1 : decode cX5_write 1 = .ok (.getfield 9, 3) := by decide +kernel
theorem dX5_write_4 : decode cX5_write 4 = .ok (.iload_n 1, 1) := by decide +kernel
theorem dX5_write_5 : decode cX5_write 5 = .ok (.iload_n 2, 1) := by decide +kernel
theorem dX5_write_6 : decode cX5_write 6 = .ok (.iastore, 1) := by decide +kernel
theorem dX5_write_7 : decode cX5_write 7 = .ok (.aload_n 0, 1) := by decide +kernel
theorem dX5_write_8 : decode cX5_write 8 = .ok (.invokevirtual 34, 3) := by decide +kernel
theorem dX5_write_11 : decode cX5_write 11 = .ok (.return_, 1) := by decide +kernel
theorem pd_X5_write : (parseMethodDescriptor yX5_write.desc).map (fun d => d.parameters.length) = some 2 := by decide +kernel
def w_X5_write (zz : Nat → Nat) (a0 : Nat) (a1 : Int) (a2 : Int) (h : AH) (Q : AH → Prop) : Prop := okA h a0 5 ∧ ∃ b1 : Nat, hfR h a0 0 = some b1 ∧ okW h b1 a1 ∧ ∀ h6 : AH, h6 = saI h b1 (u1 (haI h b1) a1 a2) → okA h6 a0 5 ∧ w_X5_numberLetters zz a0 h6 (fun  (h8 : AH) => Q h8)
set_option maxRecDepth 100000 in
set_option maxHeartbeats 4000000 in
theorem met_X5_write (G : GG) (l : Launch) : ∀ (As : List Value) (a0 : Nat) (a1 : Int) (a2 : Int) (h : AH) (Q : AH → Prop), As.map ab = List.map some ([vR a0, vI a1, vI a2] : List AV) → w_X5_write G.2.2 a0 a1 a2 h Q → Met l yX5_write (.code yX5_write cX5_write 3 none :: xTb) ({ frames := 1, cells := 0, slots := 0, locals := 21 } : Room) (PcA G As h) (QG G (oV Q)) 0 0 (frA G) := by
  intro As a0 a1 a2 h Q hA hw
  refine met_of hA (by decide) (Nat.le_of_ble_eq_true rfl) (fun p e s m args below meth c C hml hr hnm => ?_)
  unfold w_X5_write at hw
  refine aw_aload_n (pc := 0) C dX5_write_0 rfl rfl ?_
  obtain ⟨hp9, b1, hb9, hw⟩ := hw
  refine aw_getR (pc := 1) C (ci := 5) (k := 0) ci5 (by decide) tw43 dX5_write_1 rfl hp9 hb9 ?_
  refine aw_iload_n (pc := 4) C dX5_write_4 rfl rfl ?_
  refine aw_iload_n (pc := 5) C dX5_write_5 rfl rfl ?_
  obtain ⟨⟨k9, hp9⟩, hw⟩ := hw
  refine aw_iast (pc := 6) C dX5_write_6 hp9 (aw_nmH (fun h6 e9 => ?_))
  have hw := hw h6 e9
  refine aw_aload_n (pc := 7) C dX5_write_7 rfl rfl ?_
  obtain ⟨hp9, hw⟩ := hw
  refine aw_callV (pc := 8) (as := []) C ci5 (fun As hA => met_X5_numberLetters G l As a0 _ _ hA hw) tw654 tw656 (tbp 31 (n := 3) (by decide +kernel)) tw3 tw657 ⟨rfl, rfl⟩ ⟨rfl, by decide, by decide, pd_X5_numberLetters⟩ ⟨Nat.le_of_ble_eq_true rfl, Nat.le_of_ble_eq_true rfl⟩ ⟨Nat.zero_le _, Nat.zero_le _⟩ (Nat.le_of_ble_eq_true rfl) dX5_write_8 rfl hp9 (fun v9 h8 hq9 => ?_)
  obtain ⟨rfl, hw⟩ := hq9
  exact aw_vret (pc := 11) C hr dX5_write_11 ⟨Nat.le_of_ble_eq_true rfl, Nat.le_of_ble_eq_true rfl⟩ ⟨rfl, hw⟩
theorem dX3_mayBePaired_0 : decode cX3_mayBePaired 0 = .ok (.aload_n 0, 1) := by decide +kernel
theorem dX3_mayBePaired_1 : decode cX3_mayBePaired 1 = .ok (.getfield 9, 3) := by decide +kernel
theorem dX3_mayBePaired_4 : decode cX3_mayBePaired 4 = .ok (.iload_n 1, 1) := by decide +kernel
theorem dX3_mayBePaired_5 : decode cX3_mayBePaired 5 = .ok (.iaload, 1) := by decide +kernel
theorem dX3_mayBePaired_6 : decode cX3_mayBePaired 6 = .ok (.iconst (-1), 1) := by decide +kernel
theorem dX3_mayBePaired_7 : decode cX3_mayBePaired 7 = .ok (.if_icmp .ne 13, 3) := by decide +kernel
theorem dX3_mayBePaired_10 : decode cX3_mayBePaired 10 = .ok (.aload_n 0, 1) := by decide +kernel
theorem dX3_mayBePaired_11 : decode cX3_mayBePaired 11 = .ok (.getfield 15, 3) := by decide +kernel
theorem dX3_mayBePaired_14 : decode cX3_mayBePaired 14 = .ok (.iload_n 2, 1) := by decide +kernel
theorem dX3_mayBePaired_15 : decode cX3_mayBePaired 15 = .ok (.iaload, 1) := by decide +kernel
theorem dX3_mayBePaired_16 : decode cX3_mayBePaired 16 = .ok (.iconst (-1), 1) := by decide +kernel
theorem dX3_mayBePaired_17 : decode cX3_mayBePaired 17 = .ok (.if_icmp .eq 5, 3) := by decide +kernel
theorem dX3_mayBePaired_20 : decode cX3_mayBePaired 20 = .ok (.iconst 0, 1) := by decide +kernel
theorem dX3_mayBePaired_21 : decode cX3_mayBePaired 21 = .ok (.ireturn, 1) := by decide +kernel
theorem dX3_mayBePaired_22 : decode cX3_mayBePaired 22 = .ok (.iload_n 3, 1) := by decide +kernel
theorem dX3_mayBePaired_23 : decode cX3_mayBePaired 23 = .ok (.iconst 2, 1) := by decide +kernel
theorem dX3_mayBePaired_24 : decode cX3_mayBePaired 24 = .ok (.if_icmp .ne 32, 3) := by decide +kernel
theorem dX3_mayBePaired_27 : decode cX3_mayBePaired 27 = .ok (.aload_n 0, 1) := by decide +kernel
theorem dX3_mayBePaired_28 : decode cX3_mayBePaired 28 = .ok (.getfield 30, 3) := by decide +kernel
theorem dX3_mayBePaired_31 : decode cX3_mayBePaired 31 = .ok (.iconst 0, 1) := by decide +kernel
theorem dX3_mayBePaired_32 : decode cX3_mayBePaired 32 = .ok (.invokevirtual 49, 3) := by decide +kernel
theorem dX3_mayBePaired_35 : decode cX3_mayBePaired 35 = .ok (.iload_n 1, 1) := by decide +kernel
theorem dX3_mayBePaired_36 : decode cX3_mayBePaired 36 = .ok (.invokevirtual 88, 3) := by decide +kernel
theorem dX3_mayBePaired_39 : decode cX3_mayBePaired 39 = .ok (.aload_n 0, 1) := by decide +kernel
theorem dX3_mayBePaired_40 : decode cX3_mayBePaired 40 = .ok (.getfield 30, 3) := by decide +kernel
theorem dX3_mayBePaired_43 : decode cX3_mayBePaired 43 = .ok (.iconst 1, 1) := by decide +kernel
theorem dX3_mayBePaired_44 : decode cX3_mayBePaired 44 = .ok (.invokevirtual 49, 3) := by decide +kernel
theorem dX3_mayBePaired_47 : decode cX3_mayBePaired 47 = .ok (.iload_n 2, 1) := by decide +kernel
theorem dX3_mayBePaired_48 : decode cX3_mayBePaired 48 = .ok (.invokevirtual 88, 3) := by decide +kernel
theorem dX3_mayBePaired_51 : decode cX3_mayBePaired 51 = .ok (.if_icmp .eq 5, 3) := by decide +kernel
theorem dX3_mayBePaired_54 : decode cX3_mayBePaired 54 = .ok (.iconst 0, 1) := by decide +kernel
theorem dX3_mayBePaired_55 : decode cX3_mayBePaired 55 = .ok (.ireturn, 1) := by decide +kernel
theorem dX3_mayBePaired_56 : decode cX3_mayBePaired 56 = .ok (.aload_n 0, 1) := by decide +kernel
theorem dX3_mayBePaired_57 : decode cX3_mayBePaired 57 = .ok (.getfield 30, 3) := by decide +kernel
theorem dX3_mayBePaired_60 : decode cX3_mayBePaired 60 = .ok (.getfield 40, 3) := by decide +kernel
theorem dX3_mayBePaired_63 : decode cX3_mayBePaired 63 = .ok (.iconst 3, 1) := by decide +kernel
theorem dX3_mayBePaired_64 : decode cX3_mayBePaired 64 = .ok (.iaload, 1) := by decide +kernel
theorem dX3_mayBePaired_65 : decode cX3_mayBePaired 65 = .ok (.ifCond .eq 30, 3) := by decide +kernel
theorem dX3_mayBePaired_68 : decode cX3_mayBePaired 68 = .ok (.aload_n 0, 1) := by decide +kernel
theorem dX3_mayBePaired_69 : decode cX3_mayBePaired 69 = .ok (.getfield 30, 3) := by decide +kernel
theorem dX3_mayBePaired_72 : decode cX3_mayBePaired 72 = .ok (.iconst 0, 1) := by decide +kernel
theorem dX3_mayBePaired_73 : decode cX3_mayBePaired 73 = .ok (.invokevirtual 49, 3) := by decide +kernel
theorem dX3_mayBePaired_76 : decode cX3_mayBePaired 76 = .ok (.iload_n 1, 1) := by decide +kernel
theorem dX3_mayBePaired_77 : decode cX3_mayBePaired 77 = .ok (.invokevirtual 64, 3) := by decide +kernel
theorem dX3_mayBePaired_80 : decode cX3_mayBePaired 80 = .ok (.aload_n 0, 1) := by decide +kernel
theorem dX3_mayBePaired_81 : decode cX3_mayBePaired 81 = .ok (.getfield 30, 3) := by decide +kernel
theorem dX3_mayBePaired_84 : decode cX3_mayBePaired 84 = .ok (.iconst 1, 1) := by decide +kernel
theorem dX3_mayBePaired_85 : decode cX3_mayBePaired 85 = .ok (.invokevirtual 49, 3) := by decide +kernel
theorem dX3_mayBePaired_88 : decode cX3_mayBePaired 88 = .ok (.iload_n 2, 1) := by decide +kernel
theorem dX3_mayBePaired_89 : decode cX3_mayBePaired 89 = .ok (.invokevirtual 64, 3) := by decide +kernel
theorem dX3_mayBePaired_92 : decode cX3_mayBePaired 92 = .ok (.if_icmp .ne 7, 3) := by decide +kernel
theorem dX3_mayBePaired_95 : decode cX3_mayBePaired 95 = .ok (.iconst 1, 1) := by decide +kernel
theorem dX3_mayBePaired_96 : decode cX3_mayBePaired 96 = .ok (.goto 4, 3) := by decide +kernel
theorem dX3_mayBePaired_99 : decode cX3_mayBePaired 99 = .ok (.iconst 0, 1) := by decide +kernel
theorem dX3_mayBePaired_100 : decode cX3_mayBePaired 100 = .ok (.ireturn, 1) := by decide +kernel
theorem pd_X3_mayBePaired : (parseMethodDescriptor yX3_mayBePaired.desc).map (fun d => d.parameters.length) = some 3 := by decide +kernel
def w_X3_mayBePaired (zz : Nat → Nat) (a0 : Nat) (a1 : Int) (a2 : Int) (a3 : Int) (h : AH) (Q : Int → AH → Prop) : Prop := okA h a0 3 ∧ ∃ b1 : Nat, hfR h a0 0 = some b1 ∧ okI h b1 a1 ∧ jn (fun  (h_20 : AH) => ((0 : Int) = 0 ∨ (0 : Int) = 1) ∧ Q (0 : Int) h_20) (fun k_20 : AH → Prop => ((¬ (haI h b1 a1) = (-1 : Int)) → k_20  h) ∧ (((haI h b1 a1) = (-1 : Int)) → okA h a0 3 ∧ ∃ b11 : Nat, hfR h a0 1 = some b11 ∧ okI h b11 a2 ∧ (((haI h b11 a2) = (-1 : Int)) → jn (fun  (h_56 : AH) => okA h_56 a0 3 ∧ ∃ b57 : Nat, hfR h_56 a0 5 = some b57 ∧ okA h_56 b57 4 ∧ ∃ b60 : Nat, hfR h_56 b57 0 = some b60 ∧ okI h_56 b60 (3 : Int) ∧ jn (fun (t0_100 : Int) (h_100 : AH) => (t0_100 = 0 ∨ t0_100 = 1) ∧ Q t0_100 h_100) (fun k_100 : Int → AH → Prop => jn (fun  (h_95 : AH) => k_100 (1 : Int) h_95) (fun k_95 : AH → Prop => (((haI h_56 b60 (3 : Int)) = 0) → k_95  h_56) ∧ ((¬ ((haI h_56 b60 (3 : Int)) = 0)) → okA h_56 a0 3 ∧ ∃ b69 : Nat, hfR h_56 a0 5 = some b69 ∧ okA h_56 b69 4 ∧ w_X4_text zz b69 (0 : Int) h_56 (fun (r73 : Nat) (h73 : AH) => okA h73 r73 5 ∧ w_X5_rowOf zz r73 a1 h73 (fun (r77 : Int) (h77 : AH) => okA h77 a0 3 ∧ ∃ b81 : Nat, hfR h77 a0 5 = some b81 ∧ okA h77 b81 4 ∧ w_X4_text zz b81 (1 : Int) h77 (fun (r85 : Nat) (h85 : AH) => okA h85 r85 5 ∧ w_X5_rowOf zz r85 a2 h85 (fun (r89 : Int) (h89 : AH) => ((¬ r77 = r89) → k_100 (0 : Int) h89) ∧ ((r77 = r89) → k_95  h89))))))))) (fun k_56 : AH → Prop => ((¬ a3 = (2 : Int)) → k_56  h) ∧ ((a3 = (2 : Int)) → okA h a0 3 ∧ ∃ b28 : Nat, hfR h a0 5 = some b28 ∧ okA h b28 4 ∧ w_X4_text zz b28 (0 : Int) h (fun (r32 : Nat) (h32 : AH) => okA h32 r32 5 ∧ w_X5_codeOf zz r32 a1 h32 (fun (r36 : Int) (h36 : AH) => okA h36 a0 3 ∧ ∃ b40 : Nat, hfR h36 a0 5 = some b40 ∧ okA h36 b40 4 ∧ w_X4_text zz b40 (1 : Int) h36 (fun (r44 : Nat) (h44 : AH) => okA h44 r44 5 ∧ w_X5_codeOf zz r44 a2 h44 (fun (r48 : Int) (h48 : AH) => ((r36 = r48) → k_56  h48) ∧ ((¬ (r36 = r48)) → ((0 : Int) = 0 ∨ (0 : Int) = 1) ∧ Q (0 : Int) h48)))))))) ∧ ((¬ ((haI h b11 a2) = (-1 : Int))) → k_20  h)))
set_option maxRecDepth 100000 in
set_option maxHeartbeats 4000000 in
theorem met_X3_mayBePaired (G : GG) (l : Launch) : ∀ (As : List Value) (a0 : Nat) (a1 : Int) (a2 : Int) (a3 : Int) (h : AH) (Q : Int → AH → Prop), As.map ab = List.map some ([vR a0, vI a1, vI a2, vI a3] : List AV) → w_X3_mayBePaired G.2.2 a0 a1 a2 a3 h Q → Met l yX3_mayBePaired (.code yX3_mayBePaired cX3_mayBePaired 4 (some .boolean) :: xTb) ({ frames := 1, cells := 0, slots := 0, locals := 21 } : Room) (PcA G As h) (QG G (oI Q)) 0 0 (frA G) := by
  intro As a0 a1 a2 a3 h Q hA hw
  refine met_of hA (by decide) (Nat.le_of_ble_eq_true rfl) (fun p e s m args below meth c C hml hr hnm => ?_)
  unfold w_X3_mayBePaired at hw
  refine aw_aload_n (pc := 0) C dX3_mayBePaired_0 rfl rfl ?_
  obtain ⟨hp9, b1, hb9, hw⟩ := hw
  refine aw_getR (pc := 1) C (ci := 3) (k := 0) ci3 (by decide) tw92 dX3_mayBePaired_1 rfl hp9 hb9 ?_
  refine aw_iload_n (pc := 4) C dX3_mayBePaired_4 rfl rfl ?_
  obtain ⟨⟨k9, hp9⟩, hw⟩ := hw
  refine aw_iald (pc := 5) C dX3_mayBePaired_5 hp9 ?_
  refine aw_iconst (pc := 6) C dX3_mayBePaired_6 (i := (-1 : Int)) (by decide) ?_
  obtain ⟨k_20, hk_20, hw⟩ := jn_out hw
  have J_20 : ∀  (h_20 : AH), k_20  h_20 → AW G p l e ({ frames := 1, cells := 0, slots := 0, locals := 21 } : Room) s m args below meth c 0 0 (MQ below (QG G (oI Q)) args s 0 0 (frA G)) 20 (eOf []) [] h_20 := by
    intro  h_20 hw
    rw [hk_20] at hw
    refine aw_iconst (pc := 20) C dX3_mayBePaired_20 (i := (0 : Int)) (by decide) ?_
    obtain ⟨hp9, hw⟩ := hw
    exact aw_zret (pc := 21) C hr dX3_mayBePaired_21 ⟨Nat.le_of_ble_eq_true rfl, Nat.le_of_ble_eq_true rfl⟩ hp9 ⟨_, rfl, hw⟩
  refine aw_icmp_ne (pc := 7) (tgt := 20) C dX3_mayBePaired_7 (by decide) (fun hc9 => ?_) (fun hc9 => ?_)
  · have hw := hw.1 hc9
    refine aw_sub [] trivial ?_
    exact J_20  _ hw
  · have hw := hw.2 hc9
    refine aw_aload_n (pc := 10) C dX3_mayBePaired_10 rfl rfl ?_
    obtain ⟨hp9, b11, hb9, hw⟩ := hw
    refine aw_getR (pc := 11) C (ci := 3) (k := 1) ci3 (by decide) tw95 dX3_mayBePaired_11 rfl hp9 hb9 ?_
    refine aw_iload_n (pc := 14) C dX3_mayBePaired_14 rfl rfl ?_
    obtain ⟨⟨k9, hp9⟩, hw⟩ := hw
    refine aw_iald (pc := 15) C dX3_mayBePaired_15 hp9 ?_
    refine aw_iconst (pc := 16) C dX3_mayBePaired_16 (i := (-1 : Int)) (by decide) ?_
    refine aw_icmp_eq (pc := 17) (tgt := 22) C dX3_mayBePaired_17 (by decide) (fun hc9 => ?_) (fun hc9 => ?_)
    · have hw := hw.1 hc9
      refine aw_iload_n (pc := 22) C dX3_mayBePaired_22 rfl rfl ?_
      refine aw_iconst (pc := 23) C dX3_mayBePaired_23 (i := (2 : Int)) (by decide) ?_
      obtain ⟨k_56, hk_56, hw⟩ := jn_out hw
      have J_56 : ∀  (h_56 : AH), k_56  h_56 → AW G p l e ({ frames := 1, cells := 0, slots := 0, locals := 21 } : Room) s m args below meth c 0 0 (MQ below (QG G (oI Q)) args s 0 0 (frA G)) 56 (eOf [(0, vR a0), (1, vI a1), (2, vI a2)]) [] h_56 := by
        intro  h_56 hw
        rw [hk_56] at hw
        refine aw_aload_n (pc := 56) C dX3_mayBePaired_56 rfl rfl ?_
        obtain ⟨hp9, b57, hb9, hw⟩ := hw
        refine aw_getR (pc := 57) C (ci := 3) (k := 5) ci3 (by decide) tw105 dX3_mayBePaired_57 rfl hp9 hb9 ?_
        obtain ⟨hp9, b60, hb9, hw⟩ := hw
        refine aw_getR (pc := 60) C (ci := 4) (k := 0) ci4 (by decide) tw68 dX3_mayBePaired_60 rfl hp9 hb9 ?_
        refine aw_iconst (pc := 63) C dX3_mayBePaired_63 (i := (3 : Int)) (by decide) ?_
        obtain ⟨⟨k9, hp9⟩, hw⟩ := hw
        refine aw_iald (pc := 64) C dX3_mayBePaired_64 hp9 ?_
        obtain ⟨k_100, hk_100, hw⟩ := jn_out hw
        have J_100 : ∀ (t0_100 : Int) (h_100 : AH), k_100 t0_100 h_100 → AW G p l e ({ frames := 1, cells := 0, slots := 0, locals := 21 } : Room) s m args below meth c 0 0 (MQ below (QG G (oI Q)) args s 0 0 (frA G)) 100 (eOf []) [vI t0_100] h_100 := by
          intro t0_100 h_100 hw
          rw [hk_100] at hw
          obtain ⟨hp9, hw⟩ := hw
          exact aw_zret (pc := 100) C hr dX3_mayBePaired_100 ⟨Nat.le_of_ble_eq_true rfl, Nat.le_of_ble_eq_true rfl⟩ hp9 ⟨_, rfl, hw⟩
        obtain ⟨k_95, hk_95, hw⟩ := jn_out hw
        have J_95 : ∀  (h_95 : AH), k_95  h_95 → AW G p l e ({ frames := 1, cells := 0, slots := 0, locals := 21 } : Room) s m args below meth c 0 0 (MQ below (QG G (oI Q)) args s 0 0 (frA G)) 95 (eOf []) [] h_95 := by
          intro  h_95 hw
          rw [hk_95] at hw
          refine aw_iconst (pc := 95) C dX3_mayBePaired_95 (i := (1 : Int)) (by decide) ?_
          refine aw_goto (pc := 96) (tgt := 100) C dX3_mayBePaired_96 (by decide) ?_
          refine aw_sub [] trivial ?_
          exact J_100 _ _ hw
        refine aw_if_eq (pc := 65) (tgt := 95) C dX3_mayBePaired_65 (by decide) (fun hc9 => ?_) (fun hc9 => ?_)
        · have hw := hw.1 hc9
          refine aw_sub [] trivial ?_
          exact J_95  _ hw
        · have hw := hw.2 hc9
          refine aw_aload_n (pc := 68) C dX3_mayBePaired_68 rfl rfl ?_
          obtain ⟨hp9, b69, hb9, hw⟩ := hw
          refine aw_getR (pc := 69) C (ci := 3) (k := 5) ci3 (by decide) tw105 dX3_mayBePaired_69 rfl hp9 hb9 ?_
          refine aw_iconst (pc := 72) C dX3_mayBePaired_72 (i := (0 : Int)) (by decide) ?_
          obtain ⟨hp9, hw⟩ := hw
          refine aw_callV (pc := 73) (as := [vI (0 : Int)]) C ci4 (fun As hA => met_X4_text G l As b69 (0 : Int) _ _ hA hw) tw302 tw266 tw267 tw2 tw268 ⟨rfl, rfl⟩ ⟨rfl, by decide, by decide, pd_X4_text⟩ ⟨Nat.le_of_ble_eq_true rfl, Nat.le_of_ble_eq_true rfl⟩ ⟨Nat.zero_le _, Nat.zero_le _⟩ (Nat.le_of_ble_eq_true rfl) dX3_mayBePaired_73 rfl hp9 (fun v9 h73 hq9 => ?_)
          obtain ⟨r73, rfl, hw⟩ := hq9
          refine aw_iload_n (pc := 76) C dX3_mayBePaired_76 rfl rfl ?_
          obtain ⟨hp9, hw⟩ := hw
          refine aw_callV (pc := 77) (as := [vI a1]) C ci5 (fun As hA => met_X5_rowOf G l As r73 a1 _ _ hA hw) tw334 tw335 tw336 tw3 tw337 ⟨rfl, rfl⟩ ⟨rfl, by decide, by decide, pd_X5_rowOf⟩ ⟨Nat.le_of_ble_eq_true rfl, Nat.le_of_ble_eq_true rfl⟩ ⟨Nat.zero_le _, Nat.zero_le _⟩ (Nat.le_of_ble_eq_true rfl) dX3_mayBePaired_77 rfl hp9 (fun v9 h77 hq9 => ?_)
          obtain ⟨r77, rfl, hw⟩ := hq9
          refine aw_aload_n (pc := 80) C dX3_mayBePaired_80 rfl rfl ?_
          obtain ⟨hp9, b81, hb9, hw⟩ := hw
          refine aw_getR (pc := 81) C (ci := 3) (k := 5) ci3 (by decide) tw105 dX3_mayBePaired_81 rfl hp9 hb9 ?_
          refine aw_iconst (pc := 84) C dX3_mayBePaired_84 (i := (1 : Int)) (by decide) ?_
          obtain ⟨hp9, hw⟩ := hw
          refine aw_callV (pc := 85) (as := [vI (1 : Int)]) C ci4 (fun As hA => met_X4_text G l As b81 (1 : Int) _ _ hA hw) tw302 tw266 tw267 tw2 tw268 ⟨rfl, rfl⟩ ⟨rfl, by decide, by decide, pd_X4_text⟩ ⟨Nat.le_of_ble_eq_true rfl, Nat.le_of_ble_eq_true rfl⟩ ⟨Nat.zero_le _, Nat.zero_le _⟩ (Nat.le_of_ble_eq_true rfl) dX3_mayBePaired_85 rfl hp9 (fun v9 h85 hq9 => ?_)
          obtain ⟨r85, rfl, hw⟩ := hq9
          refine aw_iload_n (pc := 88) C dX3_mayBePaired_88 rfl rfl ?_
          obtain ⟨hp9, hw⟩ := hw
          refine aw_callV (pc := 89) (as := [vI a2]) C ci5 (fun As hA => met_X5_rowOf G l As r85 a2 _ _ hA hw) tw334 tw335 tw336 tw3 tw337 ⟨rfl, rfl⟩ ⟨rfl, by decide, by decide, pd_X5_rowOf⟩ ⟨Nat.le_of_ble_eq_true rfl, Nat.le_of_ble_eq_true rfl⟩ ⟨Nat.zero_le _, Nat.zero_le _⟩ (Nat.le_of_ble_eq_true rfl) dX3_mayBePaired_89 rfl hp9 (fun v9 h89 hq9 => ?_)
          obtain ⟨r89, rfl, hw⟩ := hq9
          refine aw_icmp_ne (pc := 92) (tgt := 99) C dX3_mayBePaired_92 (by decide) (fun hc9 => ?_) (fun hc9 => ?_)
          · have hw := hw.1 hc9
            refine aw_iconst (pc := 99) C dX3_mayBePaired_99 (i := (0 : Int)) (by decide) ?_
            refine aw_sub [] trivial ?_
            exact J_100 _ _ hw
          · have hw := hw.2 hc9
            refine aw_sub [] trivial ?_
            exact J_95  _ hw
      refine aw_icmp_ne (pc := 24) (tgt := 56) C dX3_mayBePaired_24 (by decide) (fun hc9 => ?_) (fun hc9 => ?_)
      · have hw := hw.1 hc9
        refine aw_sub [(0, vR a0), (1, vI a1), (2, vI a2)] ⟨rfl, rfl, rfl, trivial⟩ ?_
        exact J_56  _ hw
      · have hw := hw.2 hc9
        refine aw_aload_n (pc := 27) C dX3_mayBePaired_27 rfl rfl ?_
        obtain ⟨hp9, b28, hb9, hw⟩ := hw
        refine aw_getR (pc := 28) C (ci := 3) (k := 5) ci3 (by decide) tw105 dX3_mayBePaired_28 rfl hp9 hb9 ?_
        refine aw_iconst (pc := 31) C dX3_mayBePaired_31 (i := (0 : Int)) (by decide) ?_
        obtain ⟨hp9, hw⟩ := hw
        refine aw_callV (pc := 32) (as := [vI (0 : Int)]) C ci4 (fun As hA => met_X4_text G l As b28 (0 : Int) _ _ hA hw) tw302 tw266 tw267 tw2 tw268 ⟨rfl, rfl⟩ ⟨rfl, by decide, by decide, pd_X4_text⟩ ⟨Nat.le_of_ble_eq_true rfl, Nat.le_of_ble_eq_true rfl⟩ ⟨Nat.zero_le _, Nat.zero_le _⟩ (Nat.le_of_ble_eq_true rfl) dX3_mayBePaired_32 rfl hp9 (fun v9 h32 hq9 => ?_)
        obtain ⟨r32, rfl, hw⟩ := hq9
        refine aw_iload_n (pc := 35) C dX3_mayBePaired_35 rfl rfl ?_
        obtain ⟨hp9, hw⟩ := hw
        refine aw_callV (pc := 36) (as := [vI a1]) C ci5 (fun As hA => met_X5_codeOf G l As r32 a1 _ _ hA hw) tw311 tw312 tw313 tw3 tw314 ⟨rfl, rfl⟩ ⟨rfl, by decide, by decide, pd_X5_codeOf⟩ ⟨Nat.le_of_ble_eq_true rfl, Nat.le_of_ble_eq_true rfl⟩ ⟨Nat.zero_le _, Nat.zero_le _⟩ (Nat.le_of_ble_eq_true rfl) dX3_mayBePaired_36 rfl hp9 (fun v9 h36 hq9 => ?_)
        obtain ⟨r36, rfl, hw⟩ := hq9
        refine aw_aload_n (pc := 39) C dX3_mayBePaired_39 rfl rfl ?_
        obtain ⟨hp9, b40, hb9, hw⟩ := hw
        refine aw_getR (pc := 40) C (ci := 3) (k := 5) ci3 (by decide) tw105 dX3_mayBePaired_40 rfl hp9 hb9 ?_
        refine aw_iconst (pc := 43) C dX3_mayBePaired_43 (i := (1 : Int)) (by decide) ?_
        obtain ⟨hp9, hw⟩ := hw
        refine aw_callV (pc := 44) (as := [vI (1 : Int)]) C ci4 (fun As hA => met_X4_text G l As b40 (1 : Int) _ _ hA hw) tw302 tw266 tw267 tw2 tw268 ⟨rfl, rfl⟩ ⟨rfl, by decide, by decide, pd_X4_text⟩ ⟨Nat.le_of_ble_eq_true rfl, Nat.le_of_ble_eq_true rfl⟩ ⟨Nat.zero_le _, Nat.zero_le _⟩ (Nat.le_of_ble_eq_true rfl) dX3_mayBePaired_44 rfl hp9 (fun v9 h44 hq9 => ?_)
        obtain ⟨r44, rfl, hw⟩ := hq9
        refine aw_iload_n (pc := 47) C dX3_mayBePaired_47 rfl rfl ?_
        obtain ⟨hp9, hw⟩ := hw
        refine aw_callV (pc := 48) (as := [vI a2]) C ci5 (fun As hA => met_X5_codeOf G l As r44 a2 _ _ hA hw) tw311 tw312 tw313 tw3 tw314 ⟨rfl, rfl⟩ ⟨rfl, by decide, by decide, pd_X5_codeOf⟩ ⟨Nat.le_of_ble_eq_true rfl, Nat.le_of_ble_eq_true rfl⟩ ⟨Nat.zero_le _, Nat.zero_le _⟩ (Nat.le_of_ble_eq_true rfl) dX3_mayBePaired_48 rfl hp9 (fun v9 h48 hq9 => ?_)
        obtain ⟨r48, rfl, hw⟩ := hq9
        refine aw_icmp_eq (pc := 51) (tgt := 56) C dX3_mayBePaired_51 (by decide) (fun hc9 => ?_) (fun hc9 => ?_)
        · have hw := hw.1 hc9
          refine aw_sub [(0, vR a0), (1, vI a1), (2, vI a2)] ⟨rfl, rfl, rfl, trivial⟩ ?_
          exact J_56  _ hw
        · have hw := hw.2 hc9
          refine aw_iconst (pc := 54) C dX3_mayBePaired_54 (i := (0 : Int)) (by decide) ?_
          obtain ⟨hp9, hw⟩ := hw
          exact aw_zret (pc := 55) C hr dX3_mayBePaired_55 ⟨Nat.le_of_ble_eq_true rfl, Nat.le_of_ble_eq_true rfl⟩ hp9 ⟨_, rfl, hw⟩
    · have hw := hw.2 hc9
      refine aw_sub [] trivial ?_
      exact J_20  _ hw
theorem dX3_pair_0 : decode cX3_pair 0 = .ok (.aload_n 0, 1) := by decide +kernel
theorem dX3_pair_1 : decode cX3_pair 1 = .ok (.getfield 9, 3) := by decide +kernel
theorem dX3_pair_4 : decode cX3_pair 4 = .ok (.iload_n 1, 1) := by decide +kernel
theorem dX3_pair_5 : decode cX3_pair 5 = .ok (.iload_n 2, 1) := by decide +kernel
theorem dX3_pair_6 : decode cX3_pair 6 = .ok (.iastore, 1) := by decide +kernel
theorem dX3_pair_7 : decode cX3_pair 7 = .ok (.aload_n 0, 1) := by decide +kernel
theorem dX3_pair_8 : decode cX3_pair 8 = .ok (.getfield 15, 3) := by decide +kernel
theorem dX3_pair_11 : decode cX3_pair 11 = .ok (.iload_n 2, 1) := by decide +kernel
theorem dX3_pair_12 : decode cX3_pair 12 = .ok (.iload_n 1, 1) := by decide +kernel
theorem dX3_pair_13 : decode cX3_pair 13 = .ok (.iastore, 1) := by decide +kernel
theorem dX3_pair_14 : decode cX3_pair 14 = .ok (.aload_n 0, 1) := by decide +kernel
theorem dX3_pair_15 : decode cX3_pair 15 = .ok (.getfield 18, 3) := by decide +kernel
theorem dX3_pair_18 : decode cX3_pair 18 = .ok (.iload_n 1, 1) := by decide +kernel
theorem dX3_pair_19 : decode cX3_pair 19 = .ok (.iload_n 3, 1) := by decide +kernel
theorem dX3_pair_20 : decode cX3_pair 20 = .ok (.iastore, 1) := by decide +kernel
theorem dX3_pair_21 : decode cX3_pair 21 = .ok (.aload_n 0, 1) := by decide +kernel
theorem dX3_pair_22 : decode cX3_pair 22 = .ok (.getfield 21, 3) := by decide +kernel
theorem dX3_pair_25 : decode cX3_pair 25 = .ok (.iload_n 2, 1) := by decide +kernel
theorem dX3_pair_26 : decode cX3_pair 26 = .ok (.iload_n 3, 1) := by decide +kernel
theorem dX3_pair_27 : decode cX3_pair 27 = .ok (.iastore, 1) := by decide +kernel
theorem dX3_pair_28 : decode cX3_pair 28 = .ok (.aload_n 0, 1) := by decide +kernel
theorem dX3_pair_29 : decode cX3_pair 29 = .ok (.getfield 24, 3) := by decide +kernel
theorem dX3_pair_32 : decode cX3_pair 32 = .ok (.iload_n 3, 1) := by decide +kernel
theorem dX3_pair_33 : decode cX3_pair 33 = .ok (.dup2, 1) := by decide +kernel
theorem dX3_pair_34 : decode cX3_pair 34 = .ok (.iaload, 1) := by decide +kernel
theorem dX3_pair_35 : decode cX3_pair 35 = .ok (.iconst 1, 1) := by decide +kernel
theorem dX3_pair_36 : decode cX3_pair 36 = .ok (.iadd, 1) := by decide +kernel
theorem dX3_pair_37 : decode cX3_pair 37 = .ok (.iastore, 1) := by decide +kernel
theorem dX3_pair_38 : decode cX3_pair 38 = .ok (.aload_n 0, 1) := by decide +kernel
theorem dX3_pair_39 : decode cX3_pair 39 = .ok (.getfield 24, 3) := by decide +kernel
theorem dX3_pair_42 : decode cX3_pair 42 = .ok (.iconst 4, 1) := by decide +kernel
theorem dX3_pair_43 : decode cX3_pair 43 = .ok (.dup2, 1) := by decide +kernel
theorem dX3_pair_44 : decode cX3_pair 44 = .ok (.iaload, 1) := by decide +kernel
theorem dX3_pair_45 : decode cX3_pair 45 = .ok (.iconst 1, 1) := by decide +kernel
theorem dX3_pair_46 : decode cX3_pair 46 = .ok (.isub, 1) := by decide +kernel
theorem dX3_pair_47 : decode cX3_pair 47 = .ok (.iastore, 1) := by decide +kernel
theorem dX3_pair_48 : decode cX3_pair 48 = .ok (.aload_n 0, 1) := by decide +kernel
theorem dX3_pair_49 : decode cX3_pair 49 = .ok (.getfield 24, 3) := by decide +kernel
theorem dX3_pair_52 : decode cX3_pair 52 = .ok (.iconst 5, 1) := by decide +kernel
theorem dX3_pair_53 : decode cX3_pair 53 = .ok (.dup2, 1) := by decide +kernel
theorem dX3_pair_54 : decode cX3_pair 54 = .ok (.iaload, 1) := by decide +kernel
theorem dX3_pair_55 : decode cX3_pair 55 = .ok (.iconst 1, 1) := by decide +kernel
theorem dX3_pair_56 : decode cX3_pair 56 = .ok (.isub, 1) := by decide +kernel
theorem dX3_pair_57 : decode cX3_pair 57 = .ok (.iastore, 1) := by decide +kernel
theorem dX3_pair_58 : decode cX3_pair 58 = .ok (.return_, 1) := by decide +kernel
theorem pd_X3_pair : (parseMethodDescriptor yX3_pair.desc).map (fun d => d.parameters.length) = some 3 := by decide +kernel
def w_X3_pair (zz : Nat → Nat) (a0 : Nat) (a1 : Int) (a2 : Int) (a3 : Int) (h : AH) (Q : AH → Prop) : Prop := okA h a0 3 ∧ ∃ b1 : Nat, hfR h a0 0 = some b1 ∧ okW h b1 a1 ∧ ∀ h6 : AH, h6 = saI h b1 (u1 (haI h b1) a1 a2) → okA h6 a0 3 ∧ ∃ b8 : Nat, hfR h6 a0 1 = some b8 ∧ okW h6 b8 a2 ∧ ∀ h13 : AH, h13 = saI h6 b8 (u1 (haI h6 b8) a2 a1) → okA h13 a0 3 ∧ ∃ b15 : Nat, hfR h13 a0 2 = some b15 ∧ okW h13 b15 a1 ∧ ∀ h20 : AH, h20 = saI h13 b15 (u1 (haI h13 b15) a1 a3) → okA h20 a0 3 ∧ ∃ b22 : Nat, hfR h20 a0 3 = some b22 ∧ okW h20 b22 a2 ∧ ∀ h27 : AH, h27 = saI h20 b22 (u1 (haI h20 b22) a2 a3) → okA h27 a0 3 ∧ ∃ b29 : Nat, hfR h27 a0 4 = some b29 ∧ okI h27 b29 a3 ∧ inR ((haI h27 b29 a3) + (1 : Int)) ∧ okW h27 b29 a3 ∧ ∀ h37 : AH, h37 = saI h27 b29 (u1 (haI h27 b29) a3 ((haI h27 b29 a3) + (1 : Int))) → okA h37 a0 3 ∧ ∃ b39 : Nat, hfR h37 a0 4 = some b39 ∧ okI h37 b39 (4 : Int) ∧ inR ((haI h37 b39 (4 : Int)) - (1 : Int)) ∧ okW h37 b39 (4 : Int) ∧ ∀ h47 : AH, h47 = saI h37 b39 (u1 (haI h37 b39) (4 : Int) ((haI h37 b39 (4 : Int)) - (1 : Int))) → okA h47 a0 3 ∧ ∃ b49 : Nat, hfR h47 a0 4 = some b49 ∧ okI h47 b49 (5 : Int) ∧ inR ((haI h47 b49 (5 : Int)) - (1 : Int)) ∧ okW h47 b49 (5 : Int) ∧ ∀ h57 : AH, h57 = saI h47 b49 (u1 (haI h47 b49) (5 : Int) ((haI h47 b49 (5 : Int)) - (1 : Int))) → Q h57
set_option maxRecDepth 100000 in
set_option maxHeartbeats 4000000 in
theorem met_X3_pair (G : GG) (l : Launch) : ∀ (As : List Value) (a0 : Nat) (a1 : Int) (a2 : Int) (a3 : Int) (h : AH) (Q : AH → Prop), As.map ab = List.map some ([vR a0, vI a1, vI a2, vI a3] : List AV) → w_X3_pair G.2.2 a0 a1 a2 a3 h Q → Met l yX3_pair (.code yX3_pair cX3_pair 4 none :: xTb) ({ frames := 0, cells := 0, slots := 0, locals := 0 } : Room) (PcA G As h) (QG G (oV Q)) 0 0 (frA G) := by
  intro As a0 a1 a2 a3 h Q hA hw
  refine met_of hA (by decide) (Nat.le_of_ble_eq_true rfl) (fun p e s m args below meth c C hml hr hnm => ?_)
  unfold w_X3_pair at hw
  refine aw_aload_n (pc := 0) C dX3_pair_0 rfl rfl ?_
  obtain ⟨hp9, b1, hb9, hw⟩ := hw
  refine aw_getR (pc := 1) C (ci := 3) (k := 0) ci3 (by decide) tw92 dX3_pair_1 rfl hp9 hb9 ?_
  refine aw_iload_n (pc := 4) C dX3_pair_4 rfl rfl ?_
  refine aw_iload_n (pc := 5) C dX3_pair_5 rfl rfl ?_
  obtain ⟨⟨k9, hp9⟩, hw⟩ := hw
  refine aw_iast (pc := 6) C dX3_pair_6 hp9 (aw_nmH (fun h6 e9 => ?_))
  have hw := hw h6 e9
  refine aw_aload_n (pc := 7) C dX3_pair_7 rfl rfl ?_
  obtain ⟨hp9, b8, hb9, hw⟩ := hw
  refine aw_getR (pc := 8) C (ci := 3) (k := 1) ci3 (by decide) tw95 dX3_pair_8 rfl hp9 hb9 ?_
  refine aw_iload_n (pc := 11) C dX3_pair_11 rfl rfl ?_
  refine aw_iload_n (pc := 12) C dX3_pair_12 rfl rfl ?_
  obtain ⟨⟨k9, hp9⟩, hw⟩ := hw
  refine aw_iast (pc := 13) C dX3_pair_13 hp9 (aw_nmH (fun h13 e9 => ?_))
  have hw := hw h13 e9
  refine aw_aload_n (pc := 14) C dX3_pair_14 rfl rfl ?_
  obtain ⟨hp9, b15, hb9, hw⟩ := hw
  refine aw_getR (pc := 15) C (ci := 3) (k := 2) ci3 (by decide) tw97 dX3_pair_15 rfl hp9 hb9 ?_
  refine aw_iload_n (pc := 18) C dX3_pair_18 rfl rfl ?_
  refine aw_iload_n (pc := 19) C dX3_pair_19 rfl rfl ?_
  obtain ⟨⟨k9, hp9⟩, hw⟩ := hw
  refine aw_iast (pc := 20) C dX3_pair_20 hp9 (aw_nmH (fun h20 e9 => ?_))
  have hw := hw h20 e9
  refine aw_aload_n (pc := 21) C dX3_pair_21 rfl rfl ?_
  obtain ⟨hp9, b22, hb9, hw⟩ := hw
  refine aw_getR (pc := 22) C (ci := 3) (k := 3) ci3 (by decide) tw99 dX3_pair_22 rfl hp9 hb9 ?_
  refine aw_iload_n (pc := 25) C dX3_pair_25 rfl rfl ?_
  refine aw_iload_n (pc := 26) C dX3_pair_26 rfl rfl ?_
  obtain ⟨⟨k9, hp9⟩, hw⟩ := hw
  refine aw_iast (pc := 27) C dX3_pair_27 hp9 (aw_nmH (fun h27 e9 => ?_))
  have hw := hw h27 e9
  refine aw_aload_n (pc := 28) C dX3_pair_28 rfl rfl ?_
  obtain ⟨hp9, b29, hb9, hw⟩ := hw
  refine aw_getR (pc := 29) C (ci := 3) (k := 4) ci3 (by decide) tw101 dX3_pair_29 rfl hp9 hb9 ?_
  refine aw_iload_n (pc := 32) C dX3_pair_32 rfl rfl ?_
  refine aw_dup2 (pc := 33) C dX3_pair_33 rfl rfl ?_
  obtain ⟨⟨k9, hp9⟩, hw⟩ := hw
  refine aw_iald (pc := 34) C dX3_pair_34 hp9 ?_
  refine aw_iconst (pc := 35) C dX3_pair_35 (i := (1 : Int)) (by decide) ?_
  obtain ⟨hp9, hw⟩ := hw
  refine aw_iadd (pc := 36) C dX3_pair_36 hp9 ?_
  obtain ⟨⟨k9, hp9⟩, hw⟩ := hw
  refine aw_iast (pc := 37) C dX3_pair_37 hp9 (aw_nmH (fun h37 e9 => ?_))
  have hw := hw h37 e9
  refine aw_aload_n (pc := 38) C dX3_pair_38 rfl rfl ?_
  obtain ⟨hp9, b39, hb9, hw⟩ := hw
  refine aw_getR (pc := 39) C (ci := 3) (k := 4) ci3 (by decide) tw101 dX3_pair_39 rfl hp9 hb9 ?_
  refine aw_iconst (pc := 42) C dX3_pair_42 (i := (4 : Int)) (by decide) ?_
  refine aw_dup2 (pc := 43) C dX3_pair_43 rfl rfl ?_
  obtain ⟨⟨k9, hp9⟩, hw⟩ := hw
  refine aw_iald (pc := 44) C dX3_pair_44 hp9 ?_
  refine aw_iconst (pc := 45) C dX3_pair_45 (i := (1 : Int)) (by decide) ?_
  obtain ⟨hp9, hw⟩ := hw
  refine aw_isub (pc := 46) C dX3_pair_46 hp9 ?_
  obtain ⟨⟨k9, hp9⟩, hw⟩ := hw
  refine aw_iast (pc := 47) C dX3_pair_47 hp9 (aw_nmH (fun h47 e9 => ?_))
  have hw := hw h47 e9
  refine aw_aload_n (pc := 48) C dX3_pair_48 rfl rfl ?_
  obtain ⟨hp9, b49, hb9, hw⟩ := hw
  refine aw_getR (pc := 49) C (ci := 3) (k := 4) ci3 (by decide) tw101 dX3_pair_49 rfl hp9 hb9 ?_
  refine aw_iconst (pc := 52) C dX3_pair_52 (i := (5 : Int)) (by decide) ?_
  refine aw_dup2 (pc := 53) C dX3_pair_53 rfl rfl ?_
  obtain ⟨⟨k9, hp9⟩, hw⟩ := hw
  refine aw_iald (pc := 54) C dX3_pair_54 hp9 ?_
  refine aw_iconst (pc := 55) C dX3_pair_55 (i := (1 : Int)) (by decide) ?_
  obtain ⟨hp9, hw⟩ := hw
  refine aw_isub (pc := 56) C dX3_pair_56 hp9 ?_
  obtain ⟨⟨k9, hp9⟩, hw⟩ := hw
  refine aw_iast (pc := 57) C dX3_pair_57 hp9 (aw_nmH (fun h57 e9 => ?_))
  have hw := hw h57 e9
  exact aw_vret (pc := 58) C hr dX3_pair_58 ⟨Nat.le_of_ble_eq_true rfl, Nat.le_of_ble_eq_true rfl⟩ ⟨rfl, hw⟩
theorem dX3_pairNearest_0 : decode cX3_pairNearest 0 = .ok (.iconst (-1), 1) := by decide +kernel
theorem dX3_pairNearest_1 : decode cX3_pairNearest 1 = .ok (.istore_n 3, 1) := by decide +kernel
theorem dX3_pairNearest_2 : decode cX3_pairNearest 2 = .ok (.iconst (-1), 1) := by decide +kernel
theorem dX3_pairNearest_3 : decode cX3_pairNearest 3 = .ok (.istore 4, 2) := by decide +kernel
theorem dX3_pairNearest_5 : decode cX3_pairNearest 5 = .ok (.iload_n 2, 1) := by decide +kernel
theorem dX3_pairNearest_6 : decode cX3_pairNearest 6 = .ok (.iconst 1, 1) := by decide +kernel
theorem dX3_pairNearest_7 : decode cX3_pairNearest 7 = .ok (.iadd, 1) := by decide +kernel
theorem dX3_pairNearest_8 : decode cX3_pairNearest 8 = .ok (.istore 5, 2) := by decide +kernel
theorem dX3_pairNearest_10 : decode cX3_pairNearest 10 = .ok (.iconst 0, 1) := by decide +kernel
theorem dX3_pairNearest_11 : decode cX3_pairNearest 11 = .ok (.istore 6, 2) := by decide +kernel
theorem dX3_pairNearest_13 : decode cX3_pairNearest 13 = .ok (.iload 6, 2) := by decide +kernel
theorem dX3_pairNearest_15 : decode cX3_pairNearest 15 = .ok (.aload_n 0, 1) := by decide +kernel
theorem dX3_pairNearest_16 : decode cX3_pairNearest 16 = .ok (.getfield 30, 3) := by decide +kernel
theorem dX3_pairNearest_19 : decode cX3_pairNearest 19 = .ok (.iconst 0, 1) := by decide +kernel
theorem dX3_pairNearest_20 : decode cX3_pairNearest 20 = .ok (.invokevirtual 49, 3) := by decide +kernel
theorem dX3_pairNearest_23 : decode cX3_pairNearest 23 = .ok (.getfield 73, 3) := by decide +kernel
theorem dX3_pairNearest_26 : decode cX3_pairNearest 26 = .ok (.if_icmp .ge 76, 3) := by decide +kernel
theorem dX3_pairNearest_29 : decode cX3_pairNearest 29 = .ok (.iconst 0, 1) := by decide +kernel
theorem dX3_pairNearest_30 : decode cX3_pairNearest 30 = .ok (.istore 7, 2) := by decide +kernel
theorem dX3_pairNearest_32 : decode cX3_pairNearest 32 = .ok (.iload 7, 2) := by decide +kernel
theorem dX3_pairNearest_34 : decode cX3_pairNearest 34 = .ok (.aload_n 0, 1) := by decide +kernel
theorem dX3_pairNearest_35 : decode cX3_pairNearest 35 = .ok (.getfield 30, 3) := by decide +kernel
theorem dX3_pairNearest_38 : decode cX3_pairNearest 38 = .ok (.iconst 1, 1) := by decide +kernel
theorem dX3_pairNearest_39 : decode cX3_pairNearest 39 = .ok (.invokevirtual 49, 3) := by decide +kernel
theorem dX3_pairNearest_42 : decode cX3_pairNearest 42 = .ok (.getfield 73, 3) := by decide +kernel
theorem dX3_pairNearest_45 : decode cX3_pairNearest 45 = .ok (.if_icmp .ge 51, 3) := by decide +kernel
theorem dX3_pairNearest_48 : decode cX3_pairNearest 48 = .ok (.aload_n 0, 1) := by decide +kernel
theorem dX3_pairNearest_49 : decode cX3_pairNearest 49 = .ok (.iload 6, 2) := by decide +kernel
theorem dX3_pairNearest_51 : decode cX3_pairNearest 51 = .ok (.iload 7, 2) := by decide +kernel
theorem dX3_pairNearest_53 : decode cX3_pairNearest 53 = .ok (.iload_n 1, 1) := by decide +kernel
theorem dX3_pairNearest_54 : decode cX3_pairNearest 54 = .ok (.invokevirtual 95, 3) := by decide +kernel
theorem dX3_pairNearest_57 : decode cX3_pairNearest 57 = .ok (.ifCond .eq 33, 3) := by decide +kernel
theorem dX3_pairNearest_60 : decode cX3_pairNearest 60 = .ok (.aload_n 0, 1) := by decide +kernel
theorem dX3_pairNearest_61 : decode cX3_pairNearest 61 = .ok (.iload 6, 2) := by decide +kernel
theorem dX3_pairNearest_63 : decode cX3_pairNearest 63 = .ok (.iload 7, 2) := by decide +kernel
theorem dX3_pairNearest_65 : decode cX3_pairNearest 65 = .ok (.invokevirtual 99, 3) := by decide +kernel
theorem dX3_pairNearest_68 : decode cX3_pairNearest 68 = .ok (.iload 5, 2) := by decide +kernel
theorem dX3_pairNearest_70 : decode cX3_pairNearest 70 = .ok (.if_icmp .ge 20, 3) := by decide +kernel
theorem dX3_pairNearest_73 : decode cX3_pairNearest 73 = .ok (.aload_n 0, 1) := by decide +kernel
theorem dX3_pairNearest_74 : decode cX3_pairNearest 74 = .ok (.iload 6, 2) := by decide +kernel
theorem dX3_pairNearest_76 : decode cX3_pairNearest 76 = .ok (.iload 7, 2) := by decide +kernel
theorem dX3_pairNearest_78 : decode cX3_pairNearest 78 = .ok (.invokevirtual 99, 3) := by decide +kernel
theorem dX3_pairNearest_81 : decode cX3_pairNearest 81 = .ok (.istore 5, 2) := by decide +kernel
theorem dX3_pairNearest_83 : decode cX3_pairNearest 83 = .ok (.iload 6, 2) := by decide +kernel
theorem dX3_pairNearest_85 : decode cX3_pairNearest 85 = .ok (.istore_n 3, 1) := by decide +kernel
theorem dX3_pairNearest_86 : decode cX3_pairNearest 86 = .ok (.iload 7, 2) := by decide +kernel
theorem dX3_pairNearest_88 : decode cX3_pairNearest 88 = .ok (.istore 4, 2) := by decide +kernel
theorem dX3_pairNearest_90 : decode cX3_pairNearest 90 = .ok (.iinc 7 1, 3) := by decide +kernel
theorem dX3_pairNearest_93 : decode cX3_pairNearest 93 = .ok (.goto (-61), 3) := by decide +kernel
theorem dX3_pairNearest_96 : decode cX3_pairNearest 96 = .ok (.iinc 6 1, 3) := by decide +kernel
theorem dX3_pairNearest_99 : decode cX3_pairNearest 99 = .ok (.goto (-86), 3) := by decide +kernel
theorem dX3_pairNearest_102 : decode cX3_pairNearest 102 = .ok (.iload_n 3, 1) := by decide +kernel
theorem dX3_pairNearest_103 : decode cX3_pairNearest 103 = .ok (.iconst (-1), 1) := by decide +kernel
theorem dX3_pairNearest_104 : decode cX3_pairNearest 104 = .ok (.if_icmp .eq 9, 3) := by decide +kernel
theorem dX3_pairNearest_107 : decode cX3_pairNearest 107 = .ok (.iload 4, 2) := by decide +kernel
theorem dX3_pairNearest_109 : decode cX3_pairNearest 109 = .ok (.iconst (-1), 1) := by decide +kernel
theorem dX3_pairNearest_110 : decode cX3_pairNearest 110 = .ok (.if_icmp .ne 5, 3) := by decide +kernel
theorem dX3_pairNearest_113 : decode cX3_pairNearest 113 = .ok (.iconst 0, 1) := by decide +kernel
theorem dX3_pairNearest_114 : decode cX3_pairNearest 114 = .ok (.ireturn, 1) := by decide +kernel
theorem dX3_pairNearest_115 : decode cX3_pairNearest 115 = .ok (.aload_n 0, 1) := by decide +kernel
theorem dX3_pairNearest_116 : decode cX3_pairNearest 116 = .ok (.iload_n 3, 1) := by decide +kernel
theorem dX3_pairNearest_117 : decode cX3_pairNearest 117 = .ok (.iload 4, 2) := by decide +kernel
theorem dX3_pairNearest_119 : decode cX3_pairNearest 119 = .ok (.iload_n 1, 1) := by decide +kernel
theorem dX3_pairNearest_120 : decode cX3_pairNearest 120 = .ok (.invokevirtual 84, 3) := by decide +kernel
theorem dX3_pairNearest_123 : decode cX3_pairNearest 123 = .ok (.iconst 1, 1) := by decide +kernel
theorem dX3_pairNearest_124 : decode cX3_pairNearest 124 = .ok (.ireturn, 1) := by decide +kernel
theorem pd_X3_pairNearest : (parseMethodDescriptor yX3_pairNearest.desc).map (fun d => d.parameters.length) = some 2 := by decide +kernel
def w_X3_pairNearest (zz : Nat → Nat) (a0 : Nat) (a1 : Int) (a2 : Int) (h : AH) (Q : Int → AH → Prop) : Prop := inR (a2 + (1 : Int)) ∧ ∀ x5_8 : Int, x5_8 = (a2 + (1 : Int)) → ∃ I_13 : Nat → Int → Int → Int → Int → AH → Prop, (∃ n, I_13 n (-1 : Int) (-1 : Int) x5_8 (0 : Int) h) ∧ ∀ (n_13 : Nat) (x3_13 : Int) (x4_13 : Int) (x5_13 : Int) (x6_13 : Int) (h_13 : AH), I_13 n_13 x3_13 x4_13 x5_13 x6_13 h_13 → (okA h_13 a0 3 ∧ ∃ b16 : Nat, hfR h_13 a0 5 = some b16 ∧ okA h_13 b16 4 ∧ w_X4_text zz b16 (0 : Int) h_13 (fun (r20 : Nat) (h20 : AH) => okA h20 r20 5 ∧ (((hfI h20 r20 2) ≤ x6_13) → jn (fun  (h_113 : AH) => ((0 : Int) = 0 ∨ (0 : Int) = 1) ∧ Q (0 : Int) h_113) (fun k_113 : AH → Prop => ((x3_13 = (-1 : Int)) → k_113  h20) ∧ ((¬ (x3_13 = (-1 : Int))) → ((¬ x4_13 = (-1 : Int)) → okA h20 a0 3 ∧ w_X3_pair zz a0 x3_13 x4_13 a1 h20 (fun  (h120 : AH) => ((1 : Int) = 0 ∨ (1 : Int) = 1) ∧ Q (1 : Int) h120)) ∧ ((x4_13 = (-1 : Int)) → k_113  h20)))) ∧ ((¬ ((hfI h20 r20 2) ≤ x6_13)) → ∃ I_32 : Nat → Int → Int → Int → Int → AH → Prop, (∃ n, I_32 n x3_13 x4_13 x5_13 (0 : Int) h20) ∧ ∀ (n_32 : Nat) (x3_32 : Int) (x4_32 : Int) (x5_32 : Int) (x7_32 : Int) (h_32 : AH), I_32 n_32 x3_32 x4_32 x5_32 x7_32 h_32 → (okA h_32 a0 3 ∧ ∃ b35 : Nat, hfR h_32 a0 5 = some b35 ∧ okA h_32 b35 4 ∧ w_X4_text zz b35 (1 : Int) h_32 (fun (r39 : Nat) (h39 : AH) => okA h39 r39 5 ∧ (((hfI h39 r39 2) ≤ x7_32) → inR (x6_13 + 1) ∧ ∀ x6_96 : Int, x6_96 = (x6_13 + 1) → ∃ m, m < n_13 ∧ I_13 m x3_32 x4_32 x5_32 x6_96 h39) ∧ ((¬ ((hfI h39 r39 2) ≤ x7_32)) → okA h39 a0 3 ∧ w_X3_mayBePaired zz a0 x6_13 x7_32 a1 h39 (fun (r54 : Int) (h54 : AH) => jn (fun (x3_90 : Int) (x4_90 : Int) (x5_90 : Int) (h_90 : AH) => inR (x7_32 + 1) ∧ ∀ x7_90 : Int, x7_90 = (x7_32 + 1) → ∃ m, m < n_32 ∧ I_32 m x3_90 x4_90 x5_90 x7_90 h_90) (fun k_90 : Int → Int → Int → AH → Prop => ((r54 = 0) → k_90 x3_32 x4_32 x5_32 h54) ∧ ((¬ (r54 = 0)) → okA h54 a0 3 ∧ w_X3_distance zz a0 x6_13 x7_32 h54 (fun (r65 : Int) (h65 : AH) => ((x5_32 ≤ r65) → k_90 x3_32 x4_32 x5_32 h65) ∧ ((¬ (x5_32 ≤ r65)) → okA h65 a0 3 ∧ w_X3_distance zz a0 x6_13 x7_32 h65 (fun (r78 : Int) (h78 : AH) => k_90 x6_13 x7_32 r78 h78))))))))))))
set_option maxRecDepth 100000 in
set_option maxHeartbeats 4000000 in
theorem met_X3_pairNearest (G : GG) (l : Launch) : ∀ (As : List Value) (a0 : Nat) (a1 : Int) (a2 : Int) (h : AH) (Q : Int → AH → Prop), As.map ab = List.map some ([vR a0, vI a1, vI a2] : List AV) → w_X3_pairNearest G.2.2 a0 a1 a2 h Q → Met l yX3_pairNearest (.code yX3_pairNearest cX3_pairNearest 8 (some .boolean) :: xTb) ({ frames := 2, cells := 0, slots := 0, locals := 45 } : Room) (PcA G As h) (QG G (oI Q)) 0 0 (frA G) := by
  intro As a0 a1 a2 h Q hA hw
  refine met_of hA (by decide) (Nat.le_of_ble_eq_true rfl) (fun p e s m args below meth c C hml hr hnm => ?_)
  unfold w_X3_pairNearest at hw
  refine aw_iconst (pc := 0) C dX3_pairNearest_0 (i := (-1 : Int)) (by decide) ?_
  refine aw_istore_n (pc := 1) C dX3_pairNearest_1 rfl (by rw [hml]; decide) ?_
  refine aw_iconst (pc := 2) C dX3_pairNearest_2 (i := (-1 : Int)) (by decide) ?_
  refine aw_istore (pc := 3) C dX3_pairNearest_3 (by rw [hml]; decide) ?_
  refine aw_iload_n (pc := 5) C dX3_pairNearest_5 rfl rfl ?_
  refine aw_iconst (pc := 6) C dX3_pairNearest_6 (i := (1 : Int)) (by decide) ?_
  obtain ⟨hp9, hw⟩ := hw
  refine aw_iadd (pc := 7) C dX3_pairNearest_7 hp9 ?_
  refine aw_nmI (fun x5_8 e9 => ?_)
  have hw := hw x5_8 e9
  refine aw_istore (pc := 8) C dX3_pairNearest_8 (by rw [hml]; decide) ?_
  refine aw_iconst (pc := 10) C dX3_pairNearest_10 (i := (0 : Int)) (by decide) ?_
  refine aw_istore (pc := 11) C dX3_pairNearest_11 (by rw [hml]; decide) ?_
  obtain ⟨I_13, ⟨n9, hi9⟩, hst9⟩ := hw
  have L_13 : ∀ (n_13 : Nat) (x3_13 : Int) (x4_13 : Int) (x5_13 : Int) (x6_13 : Int) (h_13 : AH), I_13 n_13 x3_13 x4_13 x5_13 x6_13 h_13 → AW G p l e ({ frames := 2, cells := 0, slots := 0, locals := 45 } : Room) s m args below meth c 0 0 (MQ below (QG G (oI Q)) args s 0 0 (frA G)) 13 (eOf [(0, vR a0), (1, vI a1), (3, vI x3_13), (4, vI x4_13), (5, vI x5_13), (6, vI x6_13)]) [] h_13 := by
    intro n_13
    induction n_13 using Nat.strongRecOn with
    | _ n_13 ih_13 =>
    intro x3_13 x4_13 x5_13 x6_13 h_13 hi9
    have hw := hst9 n_13 x3_13 x4_13 x5_13 x6_13 h_13 hi9
    refine aw_iload (pc := 13) C dX3_pairNearest_13 rfl ?_
    refine aw_aload_n (pc := 15) C dX3_pairNearest_15 rfl rfl ?_
    obtain ⟨hp9, b16, hb9, hw⟩ := hw
    refine aw_getR (pc := 16) C (ci := 3) (k := 5) ci3 (by decide) tw105 dX3_pairNearest_16 rfl hp9 hb9 ?_
    refine aw_iconst (pc := 19) C dX3_pairNearest_19 (i := (0 : Int)) (by decide) ?_
    obtain ⟨hp9, hw⟩ := hw
    refine aw_callV (pc := 20) (as := [vI (0 : Int)]) C ci4 (fun As hA => met_X4_text G l As b16 (0 : Int) _ _ hA hw) tw302 tw266 tw267 tw2 tw268 ⟨rfl, rfl⟩ ⟨rfl, by decide, by decide, pd_X4_text⟩ ⟨Nat.le_of_ble_eq_true rfl, Nat.le_of_ble_eq_true rfl⟩ ⟨Nat.zero_le _, Nat.zero_le _⟩ (Nat.le_of_ble_eq_true rfl) dX3_pairNearest_20 rfl hp9 (fun v9 h20 hq9 => ?_)
    obtain ⟨r20, rfl, hw⟩ := hq9
    obtain ⟨hp9, hw⟩ := hw
    refine aw_getI (pc := 23) C (ci := 5) (k := 2) ci5 (by decide) tw51 dX3_pairNearest_23 rfl hp9 ?_
    refine aw_icmp_ge (pc := 26) (tgt := 102) C dX3_pairNearest_26 (by decide) (fun hc9 => ?_) (fun hc9 => ?_)
    · have hw := hw.1 hc9
      refine aw_iload_n (pc := 102) C dX3_pairNearest_102 rfl rfl ?_
      refine aw_iconst (pc := 103) C dX3_pairNearest_103 (i := (-1 : Int)) (by decide) ?_
      obtain ⟨k_113, hk_113, hw⟩ := jn_out hw
      have J_113 : ∀  (h_113 : AH), k_113  h_113 → AW G p l e ({ frames := 2, cells := 0, slots := 0, locals := 45 } : Room) s m args below meth c 0 0 (MQ below (QG G (oI Q)) args s 0 0 (frA G)) 113 (eOf []) [] h_113 := by
        intro  h_113 hw
        rw [hk_113] at hw
        refine aw_iconst (pc := 113) C dX3_pairNearest_113 (i := (0 : Int)) (by decide) ?_
        obtain ⟨hp9, hw⟩ := hw
        exact aw_zret (pc := 114) C hr dX3_pairNearest_114 ⟨Nat.le_of_ble_eq_true rfl, Nat.le_of_ble_eq_true rfl⟩ hp9 ⟨_, rfl, hw⟩
      refine aw_icmp_eq (pc := 104) (tgt := 113) C dX3_pairNearest_104 (by decide) (fun hc9 => ?_) (fun hc9 => ?_)
      · have hw := hw.1 hc9
        refine aw_sub [] trivial ?_
        exact J_113  _ hw
      · have hw := hw.2 hc9
        refine aw_iload (pc := 107) C dX3_pairNearest_107 rfl ?_
        refine aw_iconst (pc := 109) C dX3_pairNearest_109 (i := (-1 : Int)) (by decide) ?_
        refine aw_icmp_ne (pc := 110) (tgt := 115) C dX3_pairNearest_110 (by decide) (fun hc9 => ?_) (fun hc9 => ?_)
        · have hw := hw.1 hc9
          refine aw_aload_n (pc := 115) C dX3_pairNearest_115 rfl rfl ?_
          refine aw_iload_n (pc := 116) C dX3_pairNearest_116 rfl rfl ?_
          refine aw_iload (pc := 117) C dX3_pairNearest_117 rfl ?_
          refine aw_iload_n (pc := 119) C dX3_pairNearest_119 rfl rfl ?_
          obtain ⟨hp9, hw⟩ := hw
          refine aw_callV (pc := 120) (as := [vI x3_13, vI x4_13, vI a1]) C ci3 (fun As hA => met_X3_pair G l As a0 x3_13 x4_13 a1 _ _ hA hw) tw322 tw324 (tbp 6 (n := 7) (by decide +kernel)) tw7 tw325 ⟨rfl, rfl⟩ ⟨rfl, by decide, by decide, pd_X3_pair⟩ ⟨Nat.le_of_ble_eq_true rfl, Nat.le_of_ble_eq_true rfl⟩ ⟨Nat.zero_le _, Nat.zero_le _⟩ (Nat.le_of_ble_eq_true rfl) dX3_pairNearest_120 rfl hp9 (fun v9 h120 hq9 => ?_)
          obtain ⟨rfl, hw⟩ := hq9
          refine aw_iconst (pc := 123) C dX3_pairNearest_123 (i := (1 : Int)) (by decide) ?_
          obtain ⟨hp9, hw⟩ := hw
          exact aw_zret (pc := 124) C hr dX3_pairNearest_124 ⟨Nat.le_of_ble_eq_true rfl, Nat.le_of_ble_eq_true rfl⟩ hp9 ⟨_, rfl, hw⟩
        · have hw := hw.2 hc9
          refine aw_sub [] trivial ?_
          exact J_113  _ hw
    · have hw := hw.2 hc9
      refine aw_iconst (pc := 29) C dX3_pairNearest_29 (i := (0 : Int)) (by decide) ?_
      refine aw_istore (pc := 30) C dX3_pairNearest_30 (by rw [hml]; decide) ?_
      obtain ⟨I_32, ⟨n9, hi9⟩, hst9⟩ := hw
      have L_32 : ∀ (n_32 : Nat) (x3_32 : Int) (x4_32 : Int) (x5_32 : Int) (x7_32 : Int) (h_32 : AH), I_32 n_32 x3_32 x4_32 x5_32 x7_32 h_32 → AW G p l e ({ frames := 2, cells := 0, slots := 0, locals := 45 } : Room) s m args below meth c 0 0 (MQ below (QG G (oI Q)) args s 0 0 (frA G)) 32 (eOf [(0, vR a0), (1, vI a1), (3, vI x3_32), (4, vI x4_32), (5, vI x5_32), (6, vI x6_13), (7, vI x7_32)]) [] h_32 := by
        intro n_32
        induction n_32 using Nat.strongRecOn with
        | _ n_32 ih_32 =>
        intro x3_32 x4_32 x5_32 x7_32 h_32 hi9
        have hw := hst9 n_32 x3_32 x4_32 x5_32 x7_32 h_32 hi9
        refine aw_iload (pc := 32) C dX3_pairNearest_32 rfl ?_
        refine aw_aload_n (pc := 34) C dX3_pairNearest_34 rfl rfl ?_
        obtain ⟨hp9, b35, hb9, hw⟩ := hw
        refine aw_getR (pc := 35) C (ci := 3) (k := 5) ci3 (by decide) tw105 dX3_pairNearest_35 rfl hp9 hb9 ?_
        refine aw_iconst (pc := 38) C dX3_pairNearest_38 (i := (1 : Int)) (by decide) ?_
        obtain ⟨hp9, hw⟩ := hw
        refine aw_callV (pc := 39) (as := [vI (1 : Int)]) C ci4 (fun As hA => met_X4_text G l As b35 (1 : Int) _ _ hA hw) tw302 tw266 tw267 tw2 tw268 ⟨rfl, rfl⟩ ⟨rfl, by decide, by decide, pd_X4_text⟩ ⟨Nat.le_of_ble_eq_true rfl, Nat.le_of_ble_eq_true rfl⟩ ⟨Nat.zero_le _, Nat.zero_le _⟩ (Nat.le_of_ble_eq_true rfl) dX3_pairNearest_39 rfl hp9 (fun v9 h39 hq9 => ?_)
        obtain ⟨r39, rfl, hw⟩ := hq9
        obtain ⟨hp9, hw⟩ := hw
        refine aw_getI (pc := 42) C (ci := 5) (k := 2) ci5 (by decide) tw51 dX3_pairNearest_42 rfl hp9 ?_
        refine aw_icmp_ge (pc := 45) (tgt := 96) C dX3_pairNearest_45 (by decide) (fun hc9 => ?_) (fun hc9 => ?_)
        · have hw := hw.1 hc9
          obtain ⟨hp9, hw⟩ := hw
          refine aw_iincN (pc := 96) C dX3_pairNearest_96 (k := 1) (by decide) rfl (by rw [hml]; decide) hp9 (fun x6_96 e9 => ?_)
          have hw := hw x6_96 e9
          refine aw_goto (pc := 99) (tgt := 13) C dX3_pairNearest_99 (by decide) ?_
          obtain ⟨m9, hm9, hw⟩ := hw
          refine aw_sub [(0, vR a0), (1, vI a1), (3, vI x3_32), (4, vI x4_32), (5, vI x5_32), (6, vI x6_96)] ⟨rfl, rfl, rfl, rfl, rfl, rfl, trivial⟩ ?_
          exact ih_13 m9 hm9 _ _ _ _ _ hw
        · have hw := hw.2 hc9
          refine aw_aload_n (pc := 48) C dX3_pairNearest_48 rfl rfl ?_
          refine aw_iload (pc := 49) C dX3_pairNearest_49 rfl ?_
          refine aw_iload (pc := 51) C dX3_pairNearest_51 rfl ?_
          refine aw_iload_n (pc := 53) C dX3_pairNearest_53 rfl rfl ?_
          obtain ⟨hp9, hw⟩ := hw
          refine aw_callV (pc := 54) (as := [vI x6_13, vI x7_32, vI a1]) C ci3 (fun As hA => met_X3_mayBePaired G l As a0 x6_13 x7_32 a1 _ _ hA hw) tw330 tw332 (tbp 8 (n := 7) (by decide +kernel)) tw7 tw333 ⟨rfl, rfl⟩ ⟨rfl, by decide, by decide, pd_X3_mayBePaired⟩ ⟨Nat.le_of_ble_eq_true rfl, Nat.le_of_ble_eq_true rfl⟩ ⟨Nat.zero_le _, Nat.zero_le _⟩ (Nat.le_of_ble_eq_true rfl) dX3_pairNearest_54 rfl hp9 (fun v9 h54 hq9 => ?_)
          obtain ⟨r54, rfl, hw⟩ := hq9
          obtain ⟨k_90, hk_90, hw⟩ := jn_out hw
          have J_90 : ∀ (x3_90 : Int) (x4_90 : Int) (x5_90 : Int) (h_90 : AH), k_90 x3_90 x4_90 x5_90 h_90 → AW G p l e ({ frames := 2, cells := 0, slots := 0, locals := 45 } : Room) s m args below meth c 0 0 (MQ below (QG G (oI Q)) args s 0 0 (frA G)) 90 (eOf [(0, vR a0), (1, vI a1), (3, vI x3_90), (4, vI x4_90), (5, vI x5_90), (6, vI x6_13), (7, vI x7_32)]) [] h_90 := by
            intro x3_90 x4_90 x5_90 h_90 hw
            rw [hk_90] at hw
            obtain ⟨hp9, hw⟩ := hw
            refine aw_iincN (pc := 90) C dX3_pairNearest_90 (k := 1) (by decide) rfl (by rw [hml]; decide) hp9 (fun x7_90 e9 => ?_)
            have hw := hw x7_90 e9
            refine aw_goto (pc := 93) (tgt := 32) C dX3_pairNearest_93 (by decide) ?_
            obtain ⟨m9, hm9, hw⟩ := hw
            refine aw_sub [(0, vR a0), (1, vI a1), (3, vI x3_90), (4, vI x4_90), (5, vI x5_90), (6, vI x6_13), (7, vI x7_90)] ⟨rfl, rfl, rfl, rfl, rfl, rfl, rfl, trivial⟩ ?_
            exact ih_32 m9 hm9 _ _ _ _ _ hw
          refine aw_if_eq (pc := 57) (tgt := 90) C dX3_pairNearest_57 (by decide) (fun hc9 => ?_) (fun hc9 => ?_)
          · have hw := hw.1 hc9
            refine aw_sub [(0, vR a0), (1, vI a1), (3, vI x3_32), (4, vI x4_32), (5, vI x5_32), (6, vI x6_13), (7, vI x7_32)] ⟨rfl, rfl, rfl, rfl, rfl, rfl, rfl, trivial⟩ ?_
            exact J_90 _ _ _ _ hw
          · have hw := hw.2 hc9
            refine aw_aload_n (pc := 60) C dX3_pairNearest_60 rfl rfl ?_
            refine aw_iload (pc := 61) C dX3_pairNearest_61 rfl ?_
            refine aw_iload (pc := 63) C dX3_pairNearest_63 rfl ?_
            obtain ⟨hp9, hw⟩ := hw
            refine aw_callV (pc := 65) (as := [vI x6_13, vI x7_32]) C ci3 (fun As hA => met_X3_distance G l As a0 x6_13 x7_32 _ _ hA hw) tw338 tw339 tw340 tw7 tw341 ⟨rfl, rfl⟩ ⟨rfl, by decide, by decide, pd_X3_distance⟩ ⟨Nat.le_of_ble_eq_true rfl, Nat.le_of_ble_eq_true rfl⟩ ⟨Nat.zero_le _, Nat.zero_le _⟩ (Nat.le_of_ble_eq_true rfl) dX3_pairNearest_65 rfl hp9 (fun v9 h65 hq9 => ?_)
            obtain ⟨r65, rfl, hw⟩ := hq9
            refine aw_iload (pc := 68) C dX3_pairNearest_68 rfl ?_
            refine aw_icmp_ge (pc := 70) (tgt := 90) C dX3_pairNearest_70 (by decide) (fun hc9 => ?_) (fun hc9 => ?_)
            · have hw := hw.1 hc9
              refine aw_sub [(0, vR a0), (1, vI a1), (3, vI x3_32), (4, vI x4_32), (5, vI x5_32), (6, vI x6_13), (7, vI x7_32)] ⟨rfl, rfl, rfl, rfl, rfl, rfl, rfl, trivial⟩ ?_
              exact J_90 _ _ _ _ hw
            · have hw := hw.2 hc9
              refine aw_aload_n (pc := 73) C dX3_pairNearest_73 rfl rfl ?_
              refine aw_iload (pc := 74) C dX3_pairNearest_74 rfl ?_
              refine aw_iload (pc := 76) C dX3_pairNearest_76 rfl ?_
              obtain ⟨hp9, hw⟩ := hw
              refine aw_callV (pc := 78) (as := [vI x6_13, vI x7_32]) C ci3 (fun As hA => met_X3_distance G l As a0 x6_13 x7_32 _ _ hA hw) tw338 tw339 tw340 tw7 tw341 ⟨rfl, rfl⟩ ⟨rfl, by decide, by decide, pd_X3_distance⟩ ⟨Nat.le_of_ble_eq_true rfl, Nat.le_of_ble_eq_true rfl⟩ ⟨Nat.zero_le _, Nat.zero_le _⟩ (Nat.le_of_ble_eq_true rfl) dX3_pairNearest_78 rfl hp9 (fun v9 h78 hq9 => ?_)
              obtain ⟨r78, rfl, hw⟩ := hq9
              refine aw_istore (pc := 81) C dX3_pairNearest_81 (by rw [hml]; decide) ?_
              refine aw_iload (pc := 83) C dX3_pairNearest_83 rfl ?_
              refine aw_istore_n (pc := 85) C dX3_pairNearest_85 rfl (by rw [hml]; decide) ?_
              refine aw_iload (pc := 86) C dX3_pairNearest_86 rfl ?_
              refine aw_istore (pc := 88) C dX3_pairNearest_88 (by rw [hml]; decide) ?_
              refine aw_sub [(0, vR a0), (1, vI a1), (3, vI x6_13), (4, vI x7_32), (5, vI r78), (6, vI x6_13), (7, vI x7_32)] ⟨rfl, rfl, rfl, rfl, rfl, rfl, rfl, trivial⟩ ?_
              exact J_90 _ _ _ _ hw
      refine aw_sub [(0, vR a0), (1, vI a1), (3, vI x3_13), (4, vI x4_13), (5, vI x5_13), (6, vI x6_13), (7, vI (0 : Int))] ⟨rfl, rfl, rfl, rfl, rfl, rfl, rfl, trivial⟩ ?_
      exact L_32 n9 _ _ _ _ _ hi9
  refine aw_sub [(0, vR a0), (1, vI a1), (3, vI (-1 : Int)), (4, vI (-1 : Int)), (5, vI x5_8), (6, vI (0 : Int))] ⟨rfl, rfl, rfl, rfl, rfl, rfl, trivial⟩ ?_
  exact L_13 n9 _ _ _ _ _ hi9
theorem dX7_size_0 : decode cX7_size 0 = .ok (.iload_n 0, 1) := by decide +kernel
theorem dX7_size_1 : decode cX7_size 1 = .ok (.ifCond .ge 8, 3) := by decide +kernel
theorem dX7_size_4 : decode cX7_size 4 = .ok (.iload_n 0, 1) := by decide +kernel
theorem dX7_size_5 : decode cX7_size 5 = .ok (.ineg, 1) := by decide +kernel
theorem dX7_size_6 : decode cX7_size 6 = .ok (.goto 4, 3) := by decide +kernel
theorem dX7_size_9 : decode cX7_size 9 = .ok (.iload_n 0, 1) := by decide +kernel
theorem dX7_size_10 : decode cX7_size 10 = .ok (.ireturn, 1) := by decide +kernel
theorem pd_X7_size : (parseMethodDescriptor yX7_size.desc).map (fun d => d.parameters.length) = some 1 := by decide +kernel
def w_X7_size (zz : Nat → Nat) (a0 : Int) (h : AH) (Q : Int → AH → Prop) : Prop := jn (fun (t0_10 : Int) (h_10 : AH) => Q t0_10 h_10) (fun k_10 : Int → AH → Prop => ((0 ≤ a0) → k_10 a0 h) ∧ ((¬ (0 ≤ a0)) → inR (-a0) ∧ k_10 (-a0) h))
set_option maxRecDepth 100000 in
set_option maxHeartbeats 4000000 in
theorem met_X7_size (G : GG) (l : Launch) : ∀ (As : List Value) (a0 : Int) (h : AH) (Q : Int → AH → Prop), As.map ab = List.map some ([vI a0] : List AV) → w_X7_size G.2.2 a0 h Q → Met l yX7_size (.code yX7_size cX7_size 1 (some .int) :: xTb) ({ frames := 0, cells := 0, slots := 0, locals := 0 } : Room) (PcA G As h) (QG G (oI Q)) 0 0 (frA G) := by
  intro As a0 h Q hA hw
  refine met_of hA (by decide) (Nat.le_of_ble_eq_true rfl) (fun p e s m args below meth c C hml hr hnm => ?_)
  unfold w_X7_size at hw
  refine aw_iload_n (pc := 0) C dX7_size_0 rfl rfl ?_
  obtain ⟨k_10, hk_10, hw⟩ := jn_out hw
  have J_10 : ∀ (t0_10 : Int) (h_10 : AH), k_10 t0_10 h_10 → AW G p l e ({ frames := 0, cells := 0, slots := 0, locals := 0 } : Room) s m args below meth c 0 0 (MQ below (QG G (oI Q)) args s 0 0 (frA G)) 10 (eOf []) [vI t0_10] h_10 := by
    intro t0_10 h_10 hw
    rw [hk_10] at hw
    exact aw_iret (pc := 10) C hr dX7_size_10 ⟨Nat.le_of_ble_eq_true rfl, Nat.le_of_ble_eq_true rfl⟩ ⟨_, rfl, hw⟩
  refine aw_if_ge (pc := 1) (tgt := 9) C dX7_size_1 (by decide) (fun hc9 => ?_) (fun hc9 => ?_)
  · have hw := hw.1 hc9
    refine aw_iload_n (pc := 9) C dX7_size_9 rfl rfl ?_
    refine aw_sub [] trivial ?_
    exact J_10 _ _ hw
  · have hw := hw.2 hc9
    refine aw_iload_n (pc := 4) C dX7_size_4 rfl rfl ?_
    obtain ⟨hp9, hw⟩ := hw
    refine aw_ineg (pc := 5) C dX7_size_5 hp9 ?_
    refine aw_goto (pc := 6) (tgt := 10) C dX7_size_6 (by decide) ?_
    refine aw_sub [] trivial ?_
    exact J_10 _ _ hw
theorem dX7_of_0 : decode cX7_of 0 = .ok (.aload_n 0, 1) := by decide +kernel
theorem dX7_of_1 : decode cX7_of 1 = .ok (.getfield 7, 3) := by decide +kernel
theorem dX7_of_4 : decode cX7_of 4 = .ok (.sipush 160, 3) := by decide +kernel
theorem dX7_of_7 : decode cX7_of 7 = .ok (.iload_n 1, 1) := by decide +kernel
theorem dX7_of_8 : decode cX7_of 8 = .ok (.iadd, 1) := by decide +kernel
theorem dX7_of_9 : decode cX7_of 9 = .ok (.iaload, 1) := by decide +kernel
theorem dX7_of_10 : decode cX7_of 10 = .ok (.ireturn, 1) := by decide +kernel
theorem pd_X7_of : (parseMethodDescriptor yX7_of.desc).map (fun d => d.parameters.length) = some 1 := by decide +kernel
def w_X7_of (zz : Nat → Nat) (a0 : Nat) (a1 : Int) (h : AH) (Q : Int → AH → Prop) : Prop := okA h a0 7 ∧ ∃ b1 : Nat, hfR h a0 1 = some b1 ∧ inR ((160 : Int) + a1) ∧ okI h b1 ((160 : Int) + a1) ∧ Q (haI h b1 ((160 : Int) + a1)) h
set_option maxRecDepth 100000 in
set_option maxHeartbeats 4000000 in
theorem met_X7_of (G : GG) (l : Launch) : ∀ (As : List Value) (a0 : Nat) (a1 : Int) (h : AH) (Q : Int → AH → Prop), As.map ab = List.map some ([vR a0, vI a1] : List AV) → w_X7_of G.2.2 a0 a1 h Q → Met l yX7_of (.code yX7_of cX7_of 2 (some .int) :: xTb) ({ frames := 0, cells := 0, slots := 0, locals := 0 } : Room) (PcA G As h) (QG G (oI Q)) 0 0 (frA G) := by
  intro As a0 a1 h Q hA hw
  refine met_of hA (by decide) (Nat.le_of_ble_eq_true rfl) (fun p e s m args below meth c C hml hr hnm => ?_)
  unfold w_X7_of at hw
  refine aw_aload_n (pc := 0) C dX7_of_0 rfl rfl ?_
  obtain ⟨hp9, b1, hb9, hw⟩ := hw
  refine aw_getR (pc := 1) C (ci := 7) (k := 1) ci7 (by decide) tw793 dX7_of_1 rfl hp9 hb9 ?_
  refine aw_sipush (pc := 4) C dX7_of_4 (i := (160 : Int)) (by decide) ?_
  refine aw_iload_n (pc := 7) C dX7_of_7 rfl rfl ?_
  obtain ⟨hp9, hw⟩ := hw
  refine aw_iadd (pc := 8) C dX7_of_8 hp9 ?_
  obtain ⟨⟨k9, hp9⟩, hw⟩ := hw
  refine aw_iald (pc := 9) C dX7_of_9 hp9 ?_
  exact aw_iret (pc := 10) C hr dX7_of_10 ⟨Nat.le_of_ble_eq_true rfl, Nat.le_of_ble_eq_true rfl⟩ ⟨_, rfl, hw⟩
theorem dX7_distance_0 : decode cX7_distance 0 = .ok (.aload_n 0, 1) := by decide +kernel
theorem dX7_distance_1 : decode cX7_distance 1 = .ok (.getfield 22, 3) := by decide +kernel
theorem dX7_distance_4 : decode cX7_distance 4 = .ok (.iload_n 1, 1) := by decide +kernel
theorem dX7_distance_5 : decode cX7_distance 5 = .ok (.iaload, 1) := by decide +kernel
theorem dX7_distance_6 : decode cX7_distance 6 = .ok (.istore_n 3, 1) := by decide +kernel
theorem dX7_distance_7 : decode cX7_distance 7 = .ok (.aload_n 0, 1) := by decide +kernel
theorem dX7_distance_8 : decode cX7_distance 8 = .ok (.getfield 22, 3) := by decide +kernel
theorem dX7_distance_11 : decode cX7_distance 11 = .ok (.bipush 40, 2) := by decide +kernel
theorem dX7_distance_13 : decode cX7_distance 13 = .ok (.iload_n 2, 1) := by decide +kernel
theorem dX7_distance_14 : decode cX7_distance 14 = .ok (.iadd, 1) := by decide +kernel
theorem dX7_distance_15 : decode cX7_distance 15 = .ok (.iaload, 1) := by decide +kernel
theorem dX7_distance_16 : decode cX7_distance 16 = .ok (.istore 4, 2) := by decide +kernel
theorem dX7_distance_18 : decode cX7_distance 18 = .ok (.iload_n 3, 1) := by decide +kernel
theorem dX7_distance_19 : decode cX7_distance 19 = .ok (.bipush 16, 2) := by decide +kernel
theorem dX7_distance_21 : decode cX7_distance 21 = .ok (.irem, 1) := by decide +kernel
theorem dX7_distance_22 : decode cX7_distance 22 = .ok (.iload 4, 2) := by decide +kernel
theorem dX7_distance_24 : decode cX7_distance 24 = .ok (.bipush 16, 2) := by decide +kernel
theorem dX7_distance_26 : decode cX7_distance 26 = .ok (.irem, 1) := by decide +kernel
theorem dX7_distance_27 : decode cX7_distance 27 = .ok (.isub, 1) := by decide +kernel
theorem dX7_distance_28 : decode cX7_distance 28 = .ok (.invokestatic 69, 3) := by decide +kernel
theorem dX7_distance_31 : decode cX7_distance 31 = .ok (.aload_n 0, 1) := by decide +kernel
theorem dX7_distance_32 : decode cX7_distance 32 = .ok (.iconst 0, 1) := by decide +kernel
theorem dX7_distance_33 : decode cX7_distance 33 = .ok (.invokevirtual 73, 3) := by decide +kernel
theorem dX7_distance_36 : decode cX7_distance 36 = .ok (.iload_n 3, 1) := by decide +kernel
theorem dX7_distance_37 : decode cX7_distance 37 = .ok (.bipush 16, 2) := by decide +kernel
theorem dX7_distance_39 : decode cX7_distance 39 = .ok (.idiv, 1) := by decide +kernel
theorem dX7_distance_40 : decode cX7_distance 40 = .ok (.iload 4, 2) := by decide +kernel
theorem dX7_distance_42 : decode cX7_distance 42 = .ok (.bipush 16, 2) := by decide +kernel
theorem dX7_distance_44 : decode cX7_distance 44 = .ok (.idiv, 1) := by decide +kernel
theorem dX7_distance_45 : decode cX7_distance 45 = .ok (.isub, 1) := by decide +kernel
theorem dX7_distance_46 : decode cX7_distance 46 = .ok (.invokestatic 69, 3) := by decide +kernel
theorem dX7_distance_49 : decode cX7_distance 49 = .ok (.imul, 1) := by decide +kernel
theorem dX7_distance_50 : decode cX7_distance 50 = .ok (.iadd, 1) := by decide +kernel
theorem dX7_distance_51 : decode cX7_distance 51 = .ok (.ireturn, 1) := by decide +kernel
theorem pd_X7_distance : (parseMethodDescriptor yX7_distance.desc).map (fun d => d.parameters.length) = some 2 := by decide +kernel
def w_X7_distance (zz : Nat → Nat) (a0 : Nat) (a1 : Int) (a2 : Int) (h : AH) (Q : Int → AH → Prop) : Prop := okA h a0 7 ∧ ∃ b1 : Nat, hfR h a0 7 = some b1 ∧ okI h b1 a1 ∧ ∀ x3_6 : Int, x3_6 = (haI h b1 a1) → okA h a0 7 ∧ ∃ b8 : Nat, hfR h a0 7 = some b8 ∧ inR ((40 : Int) + a2) ∧ okI h b8 ((40 : Int) + a2) ∧ ∀ x4_16 : Int, x4_16 = (haI h b8 ((40 : Int) + a2)) → (0 ≤ x3_6 ∧ 0 < (16 : Int)) ∧ (0 ≤ x4_16 ∧ 0 < (16 : Int)) ∧ inR ((x3_6 % (16 : Int)) - (x4_16 % (16 : Int))) ∧ w_X7_size zz ((x3_6 % (16 : Int)) - (x4_16 % (16 : Int))) h (fun (r28 : Int) (h28 : AH) => okA h28 a0 7 ∧ w_X7_of zz a0 (0 : Int) h28 (fun (r33 : Int) (h33 : AH) => (0 ≤ x3_6 ∧ 0 < (16 : Int)) ∧ (0 ≤ x4_16 ∧ 0 < (16 : Int)) ∧ inR ((x3_6 / (16 : Int)) - (x4_16 / (16 : Int))) ∧ w_X7_size zz ((x3_6 / (16 : Int)) - (x4_16 / (16 : Int))) h33 (fun (r46 : Int) (h46 : AH) => inR (r33 * r46) ∧ inR (r28 + (r33 * r46)) ∧ Q (r28 + (r33 * r46)) h46)))
set_option maxRecDepth 100000 in
set_option maxHeartbeats 4000000 in
theorem met_X7_distance (G : GG) (l : Launch) : ∀ (As : List Value) (a0 : Nat) (a1 : Int) (a2 : Int) (h : AH) (Q : Int → AH → Prop), As.map ab = List.map some ([vR a0, vI a1, vI a2] : List AV) → w_X7_distance G.2.2 a0 a1 a2 h Q → Met l yX7_distance (.code yX7_distance cX7_distance 5 (some .int) :: xTb) ({ frames := 1, cells := 0, slots := 0, locals := 21 } : Room) (PcA G As h) (QG G (oI Q)) 0 0 (frA G) := by
  intro As a0 a1 a2 h Q hA hw
  refine met_of hA (by decide) (Nat.le_of_ble_eq_true rfl) (fun p e s m args below meth c C hml hr hnm => ?_)
  unfold w_X7_distance at hw
  refine aw_aload_n (pc := 0) C dX7_distance_0 rfl rfl ?_
  obtain ⟨hp9, b1, hb9, hw⟩ := hw
  refine aw_getR (pc := 1) C (ci := 7) (k := 7) ci7 (by decide) tw799 dX7_distance_1 rfl hp9 hb9 ?_
  refine aw_iload_n (pc := 4) C dX7_distance_4 rfl rfl ?_
  obtain ⟨⟨k9, hp9⟩, hw⟩ := hw
  refine aw_iald (pc := 5) C dX7_distance_5 hp9 ?_
  refine aw_nmI (fun x3_6 e9 => ?_)
  have hw := hw x3_6 e9
  refine aw_istore_n (pc := 6) C dX7_distance_6 rfl (by rw [hml]; decide) ?_
  refine aw_aload_n (pc := 7) C dX7_distance_7 rfl rfl ?_
  obtain ⟨hp9, b8, hb9, hw⟩ := hw
  refine aw_getR (pc := 8) C (ci := 7) (k := 7) ci7 (by decide) tw799 dX7_distance_8 rfl hp9 hb9 ?_
  refine aw_bipush (pc := 11) C dX7_distance_11 (i := (40 : Int)) (by decide) ?_
  refine aw_iload_n (pc := 13) C dX7_distance_13 rfl rfl ?_
  obtain ⟨hp9, hw⟩ := hw
  refine aw_iadd (pc := 14) C dX7_distance_14 hp9 ?_
  obtain ⟨⟨k9, hp9⟩, hw⟩ := hw
  refine aw_iald (pc := 15) C dX7_distance_15 hp9 ?_
  refine aw_nmI (fun x4_16 e9 => ?_)
  have hw := hw x4_16 e9
  refine aw_istore (pc := 16) C dX7_distance_16 (by rw [hml]; decide) ?_
  refine aw_iload_n (pc := 18) C dX7_distance_18 rfl rfl ?_
  refine aw_bipush (pc := 19) C dX7_distance_19 (i := (16 : Int)) (by decide) ?_
  obtain ⟨hp9, hw⟩ := hw
  refine aw_irem (pc := 21) C dX7_distance_21 hp9 ?_
  refine aw_iload (pc := 22) C dX7_distance_22 rfl ?_
  refine aw_bipush (pc := 24) C dX7_distance_24 (i := (16 : Int)) (by decide) ?_
  obtain ⟨hp9, hw⟩ := hw
  refine aw_irem (pc := 26) C dX7_distance_26 hp9 ?_
  obtain ⟨hp9, hw⟩ := hw
  refine aw_isub (pc := 27) C dX7_distance_27 hp9 ?_
  refine aw_callS (pc := 28) (as := [vI ((x3_6 % (16 : Int)) - (x4_16 % (16 : Int)))]) C (fun As hA => met_X7_size G l As ((x3_6 % (16 : Int)) - (x4_16 % (16 : Int))) _ _ hA hw) tw942 tw943 tw10 tw944 ⟨rfl, rfl⟩ ⟨by decide, by decide, pd_X7_size⟩ ⟨Nat.le_of_ble_eq_true rfl, Nat.le_of_ble_eq_true rfl⟩ ⟨Nat.zero_le _, Nat.zero_le _⟩ (Nat.le_of_ble_eq_true rfl) dX7_distance_28 rfl (fun v9 h28 hq9 => ?_)
  obtain ⟨r28, rfl, hw⟩ := hq9
  refine aw_aload_n (pc := 31) C dX7_distance_31 rfl rfl ?_
  refine aw_iconst (pc := 32) C dX7_distance_32 (i := (0 : Int)) (by decide) ?_
  obtain ⟨hp9, hw⟩ := hw
  refine aw_callV (pc := 33) (as := [vI (0 : Int)]) C ci7 (fun As hA => met_X7_of G l As a0 (0 : Int) _ _ hA hw) tw945 tw947 (tbp 46 (n := 21) (by decide +kernel)) tw10 tw948 ⟨rfl, rfl⟩ ⟨rfl, by decide, by decide, pd_X7_of⟩ ⟨Nat.le_of_ble_eq_true rfl, Nat.le_of_ble_eq_true rfl⟩ ⟨Nat.zero_le _, Nat.zero_le _⟩ (Nat.le_of_ble_eq_true rfl) dX7_distance_33 rfl hp9 (fun v9 h33 hq9 => ?_)
  obtain ⟨r33, rfl, hw⟩ := hq9
  refine aw_iload_n (pc := 36) C dX7_distance_36 rfl rfl ?_
  refine aw_bipush (pc := 37) C dX7_distance_37 (i := (16 : Int)) (by decide) ?_
  obtain ⟨hp9, hw⟩ := hw
  refine aw_idiv (pc := 39) C dX7_distance_39 hp9 ?_
  refine aw_iload (pc := 40) C dX7_distance_40 rfl ?_
  refine aw_bipush (pc := 42) C dX7_distance_42 (i := (16 : Int)) (by decide) ?_
  obtain ⟨hp9, hw⟩ := hw
  refine aw_idiv (pc := 44) C dX7_distance_44 hp9 ?_
  obtain ⟨hp9, hw⟩ := hw
  refine aw_isub (pc := 45) C dX7_distance_45 hp9 ?_
  refine aw_callS (pc := 46) (as := [vI ((x3_6 / (16 : Int)) - (x4_16 / (16 : Int)))]) C (fun As hA => met_X7_size G l As ((x3_6 / (16 : Int)) - (x4_16 / (16 : Int))) _ _ hA hw) tw942 tw943 tw10 tw944 ⟨rfl, rfl⟩ ⟨by decide, by decide, pd_X7_size⟩ ⟨Nat.le_of_ble_eq_true rfl, Nat.le_of_ble_eq_true rfl⟩ ⟨Nat.zero_le _, Nat.zero_le _⟩ (Nat.le_of_ble_eq_true rfl) dX7_distance_46 rfl (fun v9 h46 hq9 => ?_)
  obtain ⟨r46, rfl, hw⟩ := hq9
  obtain ⟨hp9, hw⟩ := hw
  refine aw_imul (pc := 49) C dX7_distance_49 hp9 ?_
  obtain ⟨hp9, hw⟩ := hw
  refine aw_iadd (pc := 50) C dX7_distance_50 hp9 ?_
  exact aw_iret (pc := 51) C hr dX7_distance_51 ⟨Nat.le_of_ble_eq_true rfl, Nat.le_of_ble_eq_true rfl⟩ ⟨_, rfl, hw⟩
theorem dX7_areEqual_0 : decode cX7_areEqual 0 = .ok (.aload_n 0, 1) := by decide +kernel
theorem dX7_areEqual_1 : decode cX7_areEqual 1 = .ok (.getfield 25, 3) := by decide +kernel
theorem dX7_areEqual_4 : decode cX7_areEqual 4 = .ok (.iload_n 1, 1) := by decide +kernel
theorem dX7_areEqual_5 : decode cX7_areEqual 5 = .ok (.iaload, 1) := by decide +kernel
theorem dX7_areEqual_6 : decode cX7_areEqual 6 = .ok (.aload_n 0, 1) := by decide +kernel
theorem dX7_areEqual_7 : decode cX7_areEqual 7 = .ok (.getfield 25, 3) := by decide +kernel
theorem dX7_areEqual_10 : decode cX7_areEqual 10 = .ok (.bipush 40, 2) := by decide +kernel
theorem dX7_areEqual_12 : decode cX7_areEqual 12 = .ok (.iload_n 2, 1) := by decide +kernel
theorem dX7_areEqual_13 : decode cX7_areEqual 13 = .ok (.iadd, 1) := by decide +kernel
theorem dX7_areEqual_14 : decode cX7_areEqual 14 = .ok (.iaload, 1) := by decide +kernel
theorem dX7_areEqual_15 : decode cX7_areEqual 15 = .ok (.if_icmp .ne 7, 3) := by decide +kernel
theorem dX7_areEqual_18 : decode cX7_areEqual 18 = .ok (.iconst 1, 1) := by decide +kernel
theorem dX7_areEqual_19 : decode cX7_areEqual 19 = .ok (.goto 4, 3) := by decide +kernel
theorem dX7_areEqual_22 : decode cX7_areEqual 22 = .ok (.iconst 0, 1) := by decide +kernel
theorem dX7_areEqual_23 : decode cX7_areEqual 23 = .ok (.ireturn, 1) := by decide +kernel
theorem pd_X7_areEqual : (parseMethodDescriptor yX7_areEqual.desc).map (fun d => d.parameters.length) = some 2 := by decide +kernel
def w_X7_areEqual (zz : Nat → Nat) (a0 : Nat) (a1 : Int) (a2 : Int) (h : AH) (Q : Int → AH → Prop) : Prop := okA h a0 7 ∧ ∃ b1 : Nat, hfR h a0 8 = some b1 ∧ okI h b1 a1 ∧ okA h a0 7 ∧ ∃ b7 : Nat, hfR h a0 8 = some b7 ∧ inR ((40 : Int) + a2) ∧ okI h b7 ((40 : Int) + a2) ∧ jn (fun (t0_23 : Int) (h_23 : AH) => (t0_23 = 0 ∨ t0_23 = 1) ∧ Q t0_23 h_23) (fun k_23 : Int → AH → Prop => ((¬ (haI h b1 a1) = (haI h b7 ((40 : Int) + a2))) → k_23 (0 : Int) h) ∧ (((haI h b1 a1) = (haI h b7 ((40 : Int) + a2))) → k_23 (1 : Int) h))
set_option maxRecDepth 100000 in
set_option maxHeartbeats 4000000 in
theorem met_X7_areEqual (G : GG) (l : Launch) : ∀ (As : List Value) (a0 : Nat) (a1 : Int) (a2 : Int) (h : AH) (Q : Int → AH → Prop), As.map ab = List.map some ([vR a0, vI a1, vI a2] : List AV) → w_X7_areEqual G.2.2 a0 a1 a2 h Q → Met l yX7_areEqual (.code yX7_areEqual cX7_areEqual 3 (some .boolean) :: xTb) ({ frames := 0, cells := 0, slots := 0, locals := 0 } : Room) (PcA G As h) (QG G (oI Q)) 0 0 (frA G) := by
  intro As a0 a1 a2 h Q hA hw
  refine met_of hA (by decide) (Nat.le_of_ble_eq_true rfl) (fun p e s m args below meth c C hml hr hnm => ?_)
  unfold w_X7_areEqual at hw
  refine aw_aload_n (pc := 0) C dX7_areEqual_0 rfl rfl ?_
  obtain ⟨hp9, b1, hb9, hw⟩ := hw
  refine aw_getR (pc := 1) C (ci := 7) (k := 8) ci7 (by decide) tw800 dX7_areEqual_1 rfl hp9 hb9 ?_
  refine aw_iload_n (pc := 4) C dX7_areEqual_4 rfl rfl ?_
  obtain ⟨⟨k9, hp9⟩, hw⟩ := hw
  refine aw_iald (pc := 5) C dX7_areEqual_5 hp9 ?_
  refine aw_aload_n (pc := 6) C dX7_areEqual_6 rfl rfl ?_
  obtain ⟨hp9, b7, hb9, hw⟩ := hw
  refine aw_getR (pc := 7) C (ci := 7) (k := 8) ci7 (by decide) tw800 dX7_areEqual_7 rfl hp9 hb9 ?_
  refine aw_bipush (pc := 10) C dX7_areEqual_10 (i := (40 : Int)) (by decide) ?_
  refine aw_iload_n (pc := 12) C dX7_areEqual_12 rfl rfl ?_
  obtain ⟨hp9, hw⟩ := hw
  refine aw_iadd (pc := 13) C dX7_areEqual_13 hp9 ?_
  obtain ⟨⟨k9, hp9⟩, hw⟩ := hw
  refine aw_iald (pc := 14) C dX7_areEqual_14 hp9 ?_
  obtain ⟨k_23, hk_23, hw⟩ := jn_out hw
  have J_23 : ∀ (t0_23 : Int) (h_23 : AH), k_23 t0_23 h_23 → AW G p l e ({ frames := 0, cells := 0, slots := 0, locals := 0 } : Room) s m args below meth c 0 0 (MQ below (QG G (oI Q)) args s 0 0 (frA G)) 23 (eOf []) [vI t0_23] h_23 := by
    intro t0_23 h_23 hw
    rw [hk_23] at hw
    obtain ⟨hp9, hw⟩ := hw
    exact aw_zret (pc := 23) C hr dX7_areEqual_23 ⟨Nat.le_of_ble_eq_true rfl, Nat.le_of_ble_eq_true rfl⟩ hp9 ⟨_, rfl, hw⟩
  refine aw_icmp_ne (pc := 15) (tgt := 22) C dX7_areEqual_15 (by decide) (fun hc9 => ?_) (fun hc9 => ?_)
  · have hw := hw.1 hc9
    refine aw_iconst (pc := 22) C dX7_areEqual_22 (i := (0 : Int)) (by decide) ?_
    refine aw_sub [] trivial ?_
    exact J_23 _ _ hw
  · have hw := hw.2 hc9
    refine aw_iconst (pc := 18) C dX7_areEqual_18 (i := (1 : Int)) (by decide) ?_
    refine aw_goto (pc := 19) (tgt := 23) C dX7_areEqual_19 (by decide) ?_
    refine aw_sub [] trivial ?_
    exact J_23 _ _ hw
theorem dX7_canPair_0 : decode cX7_canPair 0 = .ok (.aload_n 0, 1) := by decide +kernel
theorem dX7_canPair_1 : decode cX7_canPair 1 = .ok (.getfield 28, 3) := by decide +kernel
theorem dX7_canPair_4 : decode cX7_canPair 4 = .ok (.iload_n 1, 1) := by decide +kernel
theorem dX7_canPair_5 : decode cX7_canPair 5 = .ok (.iaload, 1) := by decide +kernel
theorem dX7_canPair_6 : decode cX7_canPair 6 = .ok (.iconst (-1), 1) := by decide +kernel
theorem dX7_canPair_7 : decode cX7_canPair 7 = .ok (.if_icmp .ne 20, 3) := by decide +kernel
theorem dX7_canPair_10 : decode cX7_canPair 10 = .ok (.aload_n 0, 1) := by decide +kernel
theorem dX7_canPair_11 : decode cX7_canPair 11 = .ok (.getfield 28, 3) := by decide +kernel
theorem dX7_canPair_14 : decode cX7_canPair 14 = .ok (.bipush 40, 2) := by decide +kernel
theorem dX7_canPair_16 : decode cX7_canPair 16 = .ok (.iload_n 2, 1) := by decide +kernel
theorem dX7_canPair_17 : decode cX7_canPair 17 = .ok (.iadd, 1) := by decide +kernel
theorem dX7_canPair_18 : decode cX7_canPair 18 = .ok (.iaload, 1) := by decide +kernel
theorem dX7_canPair_19 : decode cX7_canPair 19 = .ok (.iconst (-1), 1) := by decide +kernel
theorem dX7_canPair_20 : decode cX7_canPair 20 = .ok (.if_icmp .ne 7, 3) := by decide +kernel
theorem dX7_canPair_23 : decode cX7_canPair 23 = .ok (.iconst 1, 1) := by decide +kernel
theorem dX7_canPair_24 : decode cX7_canPair 24 = .ok (.goto 4, 3) := by decide +kernel
theorem dX7_canPair_27 : decode cX7_canPair 27 = .ok (.iconst 0, 1) := by decide +kernel
theorem dX7_canPair_28 : decode cX7_canPair 28 = .ok (.istore 4, 2) := by decide +kernel
theorem dX7_canPair_30 : decode cX7_canPair 30 = .ok (.aload_n 0, 1) := by decide +kernel
theorem dX7_canPair_31 : decode cX7_canPair 31 = .ok (.iload_n 1, 1) := by decide +kernel
theorem dX7_canPair_32 : decode cX7_canPair 32 = .ok (.iload_n 2, 1) := by decide +kernel
theorem dX7_canPair_33 : decode cX7_canPair 33 = .ok (.invokevirtual 84, 3) := by decide +kernel
theorem dX7_canPair_36 : decode cX7_canPair 36 = .ok (.aload_n 0, 1) := by decide +kernel
theorem dX7_canPair_37 : decode cX7_canPair 37 = .ok (.iload_n 3, 1) := by decide +kernel
theorem dX7_canPair_38 : decode cX7_canPair 38 = .ok (.iconst 2, 1) := by decide +kernel
theorem dX7_canPair_39 : decode cX7_canPair 39 = .ok (.if_icmp .ne 7, 3) := by decide +kernel
theorem dX7_canPair_42 : decode cX7_canPair 42 = .ok (.iconst 1, 1) := by decide +kernel
theorem dX7_canPair_43 : decode cX7_canPair 43 = .ok (.goto 4, 3) := by decide +kernel
theorem dX7_canPair_46 : decode cX7_canPair 46 = .ok (.iconst 2, 1) := by decide +kernel
theorem dX7_canPair_47 : decode cX7_canPair 47 = .ok (.invokevirtual 73, 3) := by decide +kernel
theorem dX7_canPair_50 : decode cX7_canPair 50 = .ok (.if_icmp .gt 7, 3) := by decide +kernel
theorem dX7_canPair_53 : decode cX7_canPair 53 = .ok (.iconst 1, 1) := by decide +kernel
theorem dX7_canPair_54 : decode cX7_canPair 54 = .ok (.goto 4, 3) := by decide +kernel
theorem dX7_canPair_57 : decode cX7_canPair 57 = .ok (.iconst 0, 1) := by decide +kernel
theorem dX7_canPair_58 : decode cX7_canPair 58 = .ok (.istore 5, 2) := by decide +kernel
theorem dX7_canPair_60 : decode cX7_canPair 60 = .ok (.aload_n 0, 1) := by decide +kernel
theorem dX7_canPair_61 : decode cX7_canPair 61 = .ok (.iconst 3, 1) := by decide +kernel
theorem dX7_canPair_62 : decode cX7_canPair 62 = .ok (.invokevirtual 73, 3) := by decide +kernel
theorem dX7_canPair_65 : decode cX7_canPair 65 = .ok (.ifCond .eq 27, 3) := by decide +kernel
theorem dX7_canPair_68 : decode cX7_canPair 68 = .ok (.aload_n 0, 1) := by decide +kernel
theorem dX7_canPair_69 : decode cX7_canPair 69 = .ok (.getfield 22, 3) := by decide +kernel
theorem dX7_canPair_72 : decode cX7_canPair 72 = .ok (.iload_n 1, 1) := by decide +kernel
theorem dX7_canPair_73 : decode cX7_canPair 73 = .ok (.iaload, 1) := by decide +kernel
theorem dX7_canPair_74 : decode cX7_canPair 74 = .ok (.bipush 16, 2) := by decide +kernel
theorem dX7_canPair_76 : decode cX7_canPair 76 = .ok (.idiv, 1) := by decide +kernel
theorem dX7_canPair_77 : decode cX7_canPair 77 = .ok (.aload_n 0, 1) := by decide +kernel
theorem dX7_canPair_78 : decode cX7_canPair 78 = .ok (.getfield 22, 3) := by decide +kernel
theorem dX7_canPair_81 : decode cX7_canPair 81 = .ok (.bipush 40, 2) := by decide +kernel
theorem dX7_canPair_83 : decode cX7_canPair 83 = .ok (.iload_n 2, 1) := by decide +kernel
theorem dX7_canPair_84 : decode cX7_canPair 84 = .ok (.iadd, 1) := by decide +kernel
theorem dX7_canPair_85 : decode cX7_canPair 85 = .ok (.iaload, 1) := by decide +kernel
theorem dX7_canPair_86 : decode cX7_canPair 86 = .ok (.bipush 16, 2) := by decide +kernel
theorem dX7_canPair_88 : decode cX7_canPair 88 = .ok (.idiv, 1) := by decide +kernel
theorem dX7_canPair_89 : decode cX7_canPair 89 = .ok (.if_icmp .ne 7, 3) := by decide +kernel
theorem dX7_canPair_92 : decode cX7_canPair 92 = .ok (.iconst 1, 1) := by decide +kernel
theorem dX7_canPair_93 : decode cX7_canPair 93 = .ok (.goto 4, 3) := by decide +kernel
theorem dX7_canPair_96 : decode cX7_canPair 96 = .ok (.iconst 0, 1) := by decide +kernel
theorem dX7_canPair_97 : decode cX7_canPair 97 = .ok (.istore 6, 2) := by decide +kernel
theorem dX7_canPair_99 : decode cX7_canPair 99 = .ok (.iload 4, 2) := by decide +kernel
theorem dX7_canPair_101 : decode cX7_canPair 101 = .ok (.ifCond .eq 31, 3) := by decide +kernel
theorem dX7_canPair_104 : decode cX7_canPair 104 = .ok (.iload 5, 2) := by decide +kernel
theorem dX7_canPair_106 : decode cX7_canPair 106 = .ok (.ifCond .eq 26, 3) := by decide +kernel
theorem dX7_canPair_109 : decode cX7_canPair 109 = .ok (.iload 6, 2) := by decide +kernel
theorem dX7_canPair_111 : decode cX7_canPair 111 = .ok (.ifCond .eq 21, 3) := by decide +kernel
theorem dX7_canPair_114 : decode cX7_canPair 114 = .ok (.iload_n 3, 1) := by decide +kernel
theorem dX7_canPair_115 : decode cX7_canPair 115 = .ok (.iconst 3, 1) := by decide +kernel
theorem dX7_canPair_116 : decode cX7_canPair 116 = .ok (.if_icmp .eq 12, 3) := by decide +kernel
theorem dX7_canPair_119 : decode cX7_canPair 119 = .ok (.aload_n 0, 1) := by decide +kernel
theorem dX7_canPair_120 : decode cX7_canPair 120 = .ok (.iload_n 1, 1) := by decide +kernel
theorem dX7_canPair_121 : decode cX7_canPair 121 = .ok (.iload_n 2, 1) := by decide +kernel
theorem dX7_canPair_122 : decode cX7_canPair 122 = .ok (.invokevirtual 76, 3) := by decide +kernel
theorem dX7_canPair_125 : decode cX7_canPair 125 = .ok (.ifCond .eq 7, 3) := by decide +kernel
theorem dX7_canPair_128 : decode cX7_canPair 128 = .ok (.iconst 1, 1) := by decide +kernel
theorem dX7_canPair_129 : decode cX7_canPair 129 = .ok (.goto 4, 3) := by decide +kernel
theorem dX7_canPair_132 : decode cX7_canPair 132 = .ok (.iconst 0, 1) := by decide +kernel
theorem dX7_canPair_133 : decode cX7_canPair 133 = .ok (.ireturn, 1) := by decide +kernel
theorem pd_X7_canPair : (parseMethodDescriptor yX7_canPair.desc).map (fun d => d.parameters.length) = some 3 := by decide +kernel
def w_X7_canPair (zz : Nat → Nat) (a0 : Nat) (a1 : Int) (a2 : Int) (a3 : Int) (h : AH) (Q : Int → AH → Prop) : Prop := okA h a0 7 ∧ ∃ b1 : Nat, hfR h a0 9 = some b1 ∧ okI h b1 a1 ∧ jn (fun (t0_28 : Int) (h_28 : AH) => okA h_28 a0 7 ∧ w_X7_distance zz a0 a1 a2 h_28 (fun (r33 : Int) (h33 : AH) => jn (fun (t2_47 : Int) (h_47 : AH) => okA h_47 a0 7 ∧ w_X7_of zz a0 t2_47 h_47 (fun (r47 : Int) (h47 : AH) => jn (fun (t0_58 : Int) (h_58 : AH) => okA h_58 a0 7 ∧ w_X7_of zz a0 (3 : Int) h_58 (fun (r62 : Int) (h62 : AH) => jn (fun (t0_97 : Int) (h_97 : AH) => jn (fun (t0_133 : Int) (h_133 : AH) => (t0_133 = 0 ∨ t0_133 = 1) ∧ Q t0_133 h_133) (fun k_133 : Int → AH → Prop => jn (fun  (h_132 : AH) => k_133 (0 : Int) h_132) (fun k_132 : AH → Prop => ((t0_28 = 0) → k_132  h_97) ∧ ((¬ (t0_28 = 0)) → ((t0_58 = 0) → k_132  h_97) ∧ ((¬ (t0_58 = 0)) → ((t0_97 = 0) → k_132  h_97) ∧ ((¬ (t0_97 = 0)) → jn (fun  (h_128 : AH) => k_133 (1 : Int) h_128) (fun k_128 : AH → Prop => ((a3 = (3 : Int)) → k_128  h_97) ∧ ((¬ (a3 = (3 : Int))) → okA h_97 a0 7 ∧ w_X7_areEqual zz a0 a1 a2 h_97 (fun (r122 : Int) (h122 : AH) => ((r122 = 0) → k_132  h122) ∧ ((¬ (r122 = 0)) → k_128  h122)))))))))) (fun k_97 : Int → AH → Prop => jn (fun  (h_92 : AH) => k_97 (1 : Int) h_92) (fun k_92 : AH → Prop => ((r62 = 0) → k_92  h62) ∧ ((¬ (r62 = 0)) → okA h62 a0 7 ∧ ∃ b69 : Nat, hfR h62 a0 7 = some b69 ∧ okI h62 b69 a1 ∧ (0 ≤ (haI h62 b69 a1) ∧ 0 < (16 : Int)) ∧ okA h62 a0 7 ∧ ∃ b78 : Nat, hfR h62 a0 7 = some b78 ∧ inR ((40 : Int) + a2) ∧ okI h62 b78 ((40 : Int) + a2) ∧ (0 ≤ (haI h62 b78 ((40 : Int) + a2)) ∧ 0 < (16 : Int)) ∧ ((¬ ((haI h62 b69 a1) / (16 : Int)) = ((haI h62 b78 ((40 : Int) + a2)) / (16 : Int))) → k_97 (0 : Int) h62) ∧ ((((haI h62 b69 a1) / (16 : Int)) = ((haI h62 b78 ((40 : Int) + a2)) / (16 : Int))) → k_92  h62)))))) (fun k_58 : Int → AH → Prop => ((r47 < r33) → k_58 (0 : Int) h47) ∧ ((¬ (r47 < r33)) → k_58 (1 : Int) h47)))) (fun k_47 : Int → AH → Prop => ((¬ a3 = (2 : Int)) → k_47 (2 : Int) h33) ∧ ((a3 = (2 : Int)) → k_47 (1 : Int) h33)))) (fun k_28 : Int → AH → Prop => jn (fun  (h_27 : AH) => k_28 (0 : Int) h_27) (fun k_27 : AH → Prop => ((¬ (haI h b1 a1) = (-1 : Int)) → k_27  h) ∧ (((haI h b1 a1) = (-1 : Int)) → okA h a0 7 ∧ ∃ b11 : Nat, hfR h a0 9 = some b11 ∧ inR ((40 : Int) + a2) ∧ okI h b11 ((40 : Int) + a2) ∧ ((¬ (haI h b11 ((40 : Int) + a2)) = (-1 : Int)) → k_27  h) ∧ (((haI h b11 ((40 : Int) + a2)) = (-1 : Int)) → k_28 (1 : Int) h))))
set_option maxRecDepth 100000 in
set_option maxHeartbeats 4000000 in
theorem met_X7_canPair (G : GG) (l : Launch) : ∀ (As : List Value) (a0 : Nat) (a1 : Int) (a2 : Int) (a3 : Int) (h : AH) (Q : Int → AH → Prop), As.map ab = List.map some ([vR a0, vI a1, vI a2, vI a3] : List AV) → w_X7_canPair G.2.2 a0 a1 a2 a3 h Q → Met l yX7_canPair (.code yX7_canPair cX7_canPair 7 (some .boolean) :: xTb) ({ frames := 2, cells := 0, slots := 0, locals := 45 } : Room) (PcA G As h) (QG G (oI Q)) 0 0 (frA G) := by
  intro As a0 a1 a2 a3 h Q hA hw
  refine met_of hA (by decide) (Nat.le_of_ble_eq_true rfl) (fun p e s m args below meth c C hml hr hnm => ?_)
  unfold w_X7_canPair at hw
  refine aw_aload_n (pc := 0) C dX7_canPair_0 rfl rfl ?_
  obtain ⟨hp9, b1, hb9, hw⟩ := hw
  refine aw_getR (pc := 1) C (ci := 7) (k := 9) ci7 (by decide) tw801 dX7_canPair_1 rfl hp9 hb9 ?_
  refine aw_iload_n (pc := 4) C dX7_canPair_4 rfl rfl ?_
  obtain ⟨⟨k9, hp9⟩, hw⟩ := hw
  refine aw_iald (pc := 5) C dX7_canPair_5 hp9 ?_
  refine aw_iconst (pc := 6) C dX7_canPair_6 (i := (-1 : Int)) (by decide) ?_
  obtain ⟨k_28, hk_28, hw⟩ := jn_out hw
  have J_28 : ∀ (t0_28 : Int) (h_28 : AH), k_28 t0_28 h_28 → AW G p l e ({ frames := 2, cells := 0, slots := 0, locals := 45 } : Room) s m args below meth c 0 0 (MQ below (QG G (oI Q)) args s 0 0 (frA G)) 28 (eOf [(0, vR a0), (1, vI a1), (2, vI a2), (3, vI a3)]) [vI t0_28] h_28 := by
    intro t0_28 h_28 hw
    rw [hk_28] at hw
    refine aw_istore (pc := 28) C dX7_canPair_28 (by rw [hml]; decide) ?_
    refine aw_aload_n (pc := 30) C dX7_canPair_30 rfl rfl ?_
    refine aw_iload_n (pc := 31) C dX7_canPair_31 rfl rfl ?_
    refine aw_iload_n (pc := 32) C dX7_canPair_32 rfl rfl ?_
    obtain ⟨hp9, hw⟩ := hw
    refine aw_callV (pc := 33) (as := [vI a1, vI a2]) C ci7 (fun As hA => met_X7_distance G l As a0 a1 a2 _ _ hA hw) tw938 tw940 (tbp 45 (n := 21) (by decide +kernel)) tw10 tw941 ⟨rfl, rfl⟩ ⟨rfl, by decide, by decide, pd_X7_distance⟩ ⟨Nat.le_of_ble_eq_true rfl, Nat.le_of_ble_eq_true rfl⟩ ⟨Nat.zero_le _, Nat.zero_le _⟩ (Nat.le_of_ble_eq_true rfl) dX7_canPair_33 rfl hp9 (fun v9 h33 hq9 => ?_)
    obtain ⟨r33, rfl, hw⟩ := hq9
    refine aw_aload_n (pc := 36) C dX7_canPair_36 rfl rfl ?_
    refine aw_iload_n (pc := 37) C dX7_canPair_37 rfl rfl ?_
    refine aw_iconst (pc := 38) C dX7_canPair_38 (i := (2 : Int)) (by decide) ?_
    obtain ⟨k_47, hk_47, hw⟩ := jn_out hw
    have J_47 : ∀ (t2_47 : Int) (h_47 : AH), k_47 t2_47 h_47 → AW G p l e ({ frames := 2, cells := 0, slots := 0, locals := 45 } : Room) s m args below meth c 0 0 (MQ below (QG G (oI Q)) args s 0 0 (frA G)) 47 (eOf [(0, vR a0), (1, vI a1), (2, vI a2), (3, vI a3), (4, vI t0_28)]) [vI t2_47, vR a0, vI r33] h_47 := by
      intro t2_47 h_47 hw
      rw [hk_47] at hw
      obtain ⟨hp9, hw⟩ := hw
      refine aw_callV (pc := 47) (as := [vI t2_47]) C ci7 (fun As hA => met_X7_of G l As a0 t2_47 _ _ hA hw) tw945 tw947 (tbp 46 (n := 21) (by decide +kernel)) tw10 tw948 ⟨rfl, rfl⟩ ⟨rfl, by decide, by decide, pd_X7_of⟩ ⟨Nat.le_of_ble_eq_true rfl, Nat.le_of_ble_eq_true rfl⟩ ⟨Nat.zero_le _, Nat.zero_le _⟩ (Nat.le_of_ble_eq_true rfl) dX7_canPair_47 rfl hp9 (fun v9 h47 hq9 => ?_)
      obtain ⟨r47, rfl, hw⟩ := hq9
      obtain ⟨k_58, hk_58, hw⟩ := jn_out hw
      have J_58 : ∀ (t0_58 : Int) (h_58 : AH), k_58 t0_58 h_58 → AW G p l e ({ frames := 2, cells := 0, slots := 0, locals := 45 } : Room) s m args below meth c 0 0 (MQ below (QG G (oI Q)) args s 0 0 (frA G)) 58 (eOf [(0, vR a0), (1, vI a1), (2, vI a2), (3, vI a3), (4, vI t0_28)]) [vI t0_58] h_58 := by
        intro t0_58 h_58 hw
        rw [hk_58] at hw
        refine aw_istore (pc := 58) C dX7_canPair_58 (by rw [hml]; decide) ?_
        refine aw_aload_n (pc := 60) C dX7_canPair_60 rfl rfl ?_
        refine aw_iconst (pc := 61) C dX7_canPair_61 (i := (3 : Int)) (by decide) ?_
        obtain ⟨hp9, hw⟩ := hw
        refine aw_callV (pc := 62) (as := [vI (3 : Int)]) C ci7 (fun As hA => met_X7_of G l As a0 (3 : Int) _ _ hA hw) tw945 tw947 (tbp 46 (n := 21) (by decide +kernel)) tw10 tw948 ⟨rfl, rfl⟩ ⟨rfl, by decide, by decide, pd_X7_of⟩ ⟨Nat.le_of_ble_eq_true rfl, Nat.le_of_ble_eq_true rfl⟩ ⟨Nat.zero_le _, Nat.zero_le _⟩ (Nat.le_of_ble_eq_true rfl) dX7_canPair_62 rfl hp9 (fun v9 h62 hq9 => ?_)
        obtain ⟨r62, rfl, hw⟩ := hq9
        obtain ⟨k_97, hk_97, hw⟩ := jn_out hw
        have J_97 : ∀ (t0_97 : Int) (h_97 : AH), k_97 t0_97 h_97 → AW G p l e ({ frames := 2, cells := 0, slots := 0, locals := 45 } : Room) s m args below meth c 0 0 (MQ below (QG G (oI Q)) args s 0 0 (frA G)) 97 (eOf [(0, vR a0), (1, vI a1), (2, vI a2), (3, vI a3), (4, vI t0_28), (5, vI t0_58)]) [vI t0_97] h_97 := by
          intro t0_97 h_97 hw
          rw [hk_97] at hw
          refine aw_istore (pc := 97) C dX7_canPair_97 (by rw [hml]; decide) ?_
          refine aw_iload (pc := 99) C dX7_canPair_99 rfl ?_
          obtain ⟨k_133, hk_133, hw⟩ := jn_out hw
          have J_133 : ∀ (t0_133 : Int) (h_133 : AH), k_133 t0_133 h_133 → AW G p l e ({ frames := 2, cells := 0, slots := 0, locals := 45 } : Room) s m args below meth c 0 0 (MQ below (QG G (oI Q)) args s 0 0 (frA G)) 133 (eOf []) [vI t0_133] h_133 := by
            intro t0_133 h_133 hw
            rw [hk_133] at hw
            obtain ⟨hp9, hw⟩ := hw
            exact aw_zret (pc := 133) C hr dX7_canPair_133 ⟨Nat.le_of_ble_eq_true rfl, Nat.le_of_ble_eq_true rfl⟩ hp9 ⟨_, rfl, hw⟩
          obtain ⟨k_132, hk_132, hw⟩ := jn_out hw
          have J_132 : ∀  (h_132 : AH), k_132  h_132 → AW G p l e ({ frames := 2, cells := 0, slots := 0, locals := 45 } : Room) s m args below meth c 0 0 (MQ below (QG G (oI Q)) args s 0 0 (frA G)) 132 (eOf []) [] h_132 := by
            intro  h_132 hw
            rw [hk_132] at hw
            refine aw_iconst (pc := 132) C dX7_canPair_132 (i := (0 : Int)) (by decide) ?_
            refine aw_sub [] trivial ?_
            exact J_133 _ _ hw
          refine aw_if_eq (pc := 101) (tgt := 132) C dX7_canPair_101 (by decide) (fun hc9 => ?_) (fun hc9 => ?_)
          · have hw := hw.1 hc9
            refine aw_sub [] trivial ?_
            exact J_132  _ hw
          · have hw := hw.2 hc9
            refine aw_iload (pc := 104) C dX7_canPair_104 rfl ?_
            refine aw_if_eq (pc := 106) (tgt := 132) C dX7_canPair_106 (by decide) (fun hc9 => ?_) (fun hc9 => ?_)
            · have hw := hw.1 hc9
              refine aw_sub [] trivial ?_
              exact J_132  _ hw
            · have hw := hw.2 hc9
              refine aw_iload (pc := 109) C dX7_canPair_109 rfl ?_
              refine aw_if_eq (pc := 111) (tgt := 132) C dX7_canPair_111 (by decide) (fun hc9 => ?_) (fun hc9 => ?_)
              · have hw := hw.1 hc9
                refine aw_sub [] trivial ?_
                exact J_132  _ hw
              · have hw := hw.2 hc9
                refine aw_iload_n (pc := 114) C dX7_canPair_114 rfl rfl ?_
                refine aw_iconst (pc := 115) C dX7_canPair_115 (i := (3 : Int)) (by decide) ?_
                obtain ⟨k_128, hk_128, hw⟩ := jn_out hw
                have J_128 : ∀  (h_128 : AH), k_128  h_128 → AW G p l e ({ frames := 2, cells := 0, slots := 0, locals := 45 } : Room) s m args below meth c 0 0 (MQ below (QG G (oI Q)) args s 0 0 (frA G)) 128 (eOf []) [] h_128 := by
                  intro  h_128 hw
                  rw [hk_128] at hw
                  refine aw_iconst (pc := 128) C dX7_canPair_128 (i := (1 : Int)) (by decide) ?_
                  refine aw_goto (pc := 129) (tgt := 133) C dX7_canPair_129 (by decide) ?_
                  refine aw_sub [] trivial ?_
                  exact J_133 _ _ hw
                refine aw_icmp_eq (pc := 116) (tgt := 128) C dX7_canPair_116 (by decide) (fun hc9 => ?_) (fun hc9 => ?_)
                · have hw := hw.1 hc9
                  refine aw_sub [] trivial ?_
                  exact J_128  _ hw
                · have hw := hw.2 hc9
                  refine aw_aload_n (pc := 119) C dX7_canPair_119 rfl rfl ?_
                  refine aw_iload_n (pc := 120) C dX7_canPair_120 rfl rfl ?_
                  refine aw_iload_n (pc := 121) C dX7_canPair_121 rfl rfl ?_
                  obtain ⟨hp9, hw⟩ := hw
                  refine aw_callV (pc := 122) (as := [vI a1, vI a2]) C ci7 (fun As hA => met_X7_areEqual G l As a0 a1 a2 _ _ hA hw) tw922 tw924 (tbp 41 (n := 21) (by decide +kernel)) tw10 tw925 ⟨rfl, rfl⟩ ⟨rfl, by decide, by decide, pd_X7_areEqual⟩ ⟨Nat.le_of_ble_eq_true rfl, Nat.le_of_ble_eq_true rfl⟩ ⟨Nat.zero_le _, Nat.zero_le _⟩ (Nat.le_of_ble_eq_true rfl) dX7_canPair_122 rfl hp9 (fun v9 h122 hq9 => ?_)
                  obtain ⟨r122, rfl, hw⟩ := hq9
                  refine aw_if_eq (pc := 125) (tgt := 132) C dX7_canPair_125 (by decide) (fun hc9 => ?_) (fun hc9 => ?_)
                  · have hw := hw.1 hc9
                    refine aw_sub [] trivial ?_
                    exact J_132  _ hw
                  · have hw := hw.2 hc9
                    refine aw_sub [] trivial ?_
                    exact J_128  _ hw
        obtain ⟨k_92, hk_92, hw⟩ := jn_out hw
        have J_92 : ∀  (h_92 : AH), k_92  h_92 → AW G p l e ({ frames := 2, cells := 0, slots := 0, locals := 45 } : Room) s m args below meth c 0 0 (MQ below (QG G (oI Q)) args s 0 0 (frA G)) 92 (eOf [(0, vR a0), (1, vI a1), (2, vI a2), (3, vI a3), (4, vI t0_28), (5, vI t0_58)]) [] h_92 := by
          intro  h_92 hw
          rw [hk_92] at hw
          refine aw_iconst (pc := 92) C dX7_canPair_92 (i := (1 : Int)) (by decide) ?_
          refine aw_goto (pc := 93) (tgt := 97) C dX7_canPair_93 (by decide) ?_
          refine aw_sub [(0, vR a0), (1, vI a1), (2, vI a2), (3, vI a3), (4, vI t0_28), (5, vI t0_58)] ⟨rfl, rfl, rfl, rfl, rfl, rfl, trivial⟩ ?_
          exact J_97 _ _ hw
        refine aw_if_eq (pc := 65) (tgt := 92) C dX7_canPair_65 (by decide) (fun hc9 => ?_) (fun hc9 => ?_)
        · have hw := hw.1 hc9
          refine aw_sub [(0, vR a0), (1, vI a1), (2, vI a2), (3, vI a3), (4, vI t0_28), (5, vI t0_58)] ⟨rfl, rfl, rfl, rfl, rfl, rfl, trivial⟩ ?_
          exact J_92  _ hw
        · have hw := hw.2 hc9
          refine aw_aload_n (pc := 68) C dX7_canPair_68 rfl rfl ?_
          obtain ⟨hp9, b69, hb9, hw⟩ := hw
          refine aw_getR (pc := 69) C (ci := 7) (k := 7) ci7 (by decide) tw799 dX7_canPair_69 rfl hp9 hb9 ?_
          refine aw_iload_n (pc := 72) C dX7_canPair_72 rfl rfl ?_
          obtain ⟨⟨k9, hp9⟩, hw⟩ := hw
          refine aw_iald (pc := 73) C dX7_canPair_73 hp9 ?_
          refine aw_bipush (pc := 74) C dX7_canPair_74 (i := (16 : Int)) (by decide) ?_
          obtain ⟨hp9, hw⟩ := hw
          refine aw_idiv (pc := 76) C dX7_canPair_76 hp9 ?_
          refine aw_aload_n (pc := 77) C dX7_canPair_77 rfl rfl ?_
          obtain ⟨hp9, b78, hb9, hw⟩ := hw
          refine aw_getR (pc := 78) C (ci := 7) (k := 7) ci7 (by decide) tw799 dX7_canPair_78 rfl hp9 hb9 ?_
          refine aw_bipush (pc := 81) C dX7_canPair_81 (i := (40 : Int)) (by decide) ?_
          refine aw_iload_n (pc := 83) C dX7_canPair_83 rfl rfl ?_
          obtain ⟨hp9, hw⟩ := hw
          refine aw_iadd (pc := 84) C dX7_canPair_84 hp9 ?_
          obtain ⟨⟨k9, hp9⟩, hw⟩ := hw
          refine aw_iald (pc := 85) C dX7_canPair_85 hp9 ?_
          refine aw_bipush (pc := 86) C dX7_canPair_86 (i := (16 : Int)) (by decide) ?_
          obtain ⟨hp9, hw⟩ := hw
          refine aw_idiv (pc := 88) C dX7_canPair_88 hp9 ?_
          refine aw_icmp_ne (pc := 89) (tgt := 96) C dX7_canPair_89 (by decide) (fun hc9 => ?_) (fun hc9 => ?_)
          · have hw := hw.1 hc9
            refine aw_iconst (pc := 96) C dX7_canPair_96 (i := (0 : Int)) (by decide) ?_
            refine aw_sub [(0, vR a0), (1, vI a1), (2, vI a2), (3, vI a3), (4, vI t0_28), (5, vI t0_58)] ⟨rfl, rfl, rfl, rfl, rfl, rfl, trivial⟩ ?_
            exact J_97 _ _ hw
          · have hw := hw.2 hc9
            refine aw_sub [(0, vR a0), (1, vI a1), (2, vI a2), (3, vI a3), (4, vI t0_28), (5, vI t0_58)] ⟨rfl, rfl, rfl, rfl, rfl, rfl, trivial⟩ ?_
            exact J_92  _ hw
      refine aw_icmp_gt (pc := 50) (tgt := 57) C dX7_canPair_50 (by decide) (fun hc9 => ?_) (fun hc9 => ?_)
      · have hw := hw.1 hc9
        refine aw_iconst (pc := 57) C dX7_canPair_57 (i := (0 : Int)) (by decide) ?_
        refine aw_sub [(0, vR a0), (1, vI a1), (2, vI a2), (3, vI a3), (4, vI t0_28)] ⟨rfl, rfl, rfl, rfl, rfl, trivial⟩ ?_
        exact J_58 _ _ hw
      · have hw := hw.2 hc9
        refine aw_iconst (pc := 53) C dX7_canPair_53 (i := (1 : Int)) (by decide) ?_
        refine aw_goto (pc := 54) (tgt := 58) C dX7_canPair_54 (by decide) ?_
        refine aw_sub [(0, vR a0), (1, vI a1), (2, vI a2), (3, vI a3), (4, vI t0_28)] ⟨rfl, rfl, rfl, rfl, rfl, trivial⟩ ?_
        exact J_58 _ _ hw
    refine aw_icmp_ne (pc := 39) (tgt := 46) C dX7_canPair_39 (by decide) (fun hc9 => ?_) (fun hc9 => ?_)
    · have hw := hw.1 hc9
      refine aw_iconst (pc := 46) C dX7_canPair_46 (i := (2 : Int)) (by decide) ?_
      refine aw_sub [(0, vR a0), (1, vI a1), (2, vI a2), (3, vI a3), (4, vI t0_28)] ⟨rfl, rfl, rfl, rfl, rfl, trivial⟩ ?_
      exact J_47 _ _ hw
    · have hw := hw.2 hc9
      refine aw_iconst (pc := 42) C dX7_canPair_42 (i := (1 : Int)) (by decide) ?_
      refine aw_goto (pc := 43) (tgt := 47) C dX7_canPair_43 (by decide) ?_
      refine aw_sub [(0, vR a0), (1, vI a1), (2, vI a2), (3, vI a3), (4, vI t0_28)] ⟨rfl, rfl, rfl, rfl, rfl, trivial⟩ ?_
      exact J_47 _ _ hw
  obtain ⟨k_27, hk_27, hw⟩ := jn_out hw
  have J_27 : ∀  (h_27 : AH), k_27  h_27 → AW G p l e ({ frames := 2, cells := 0, slots := 0, locals := 45 } : Room) s m args below meth c 0 0 (MQ below (QG G (oI Q)) args s 0 0 (frA G)) 27 (eOf [(0, vR a0), (1, vI a1), (2, vI a2), (3, vI a3)]) [] h_27 := by
    intro  h_27 hw
    rw [hk_27] at hw
    refine aw_iconst (pc := 27) C dX7_canPair_27 (i := (0 : Int)) (by decide) ?_
    refine aw_sub [(0, vR a0), (1, vI a1), (2, vI a2), (3, vI a3)] ⟨rfl, rfl, rfl, rfl, trivial⟩ ?_
    exact J_28 _ _ hw
  refine aw_icmp_ne (pc := 7) (tgt := 27) C dX7_canPair_7 (by decide) (fun hc9 => ?_) (fun hc9 => ?_)
  · have hw := hw.1 hc9
    refine aw_sub [(0, vR a0), (1, vI a1), (2, vI a2), (3, vI a3)] ⟨rfl, rfl, rfl, rfl, trivial⟩ ?_
    exact J_27  _ hw
  · have hw := hw.2 hc9
    refine aw_aload_n (pc := 10) C dX7_canPair_10 rfl rfl ?_
    obtain ⟨hp9, b11, hb9, hw⟩ := hw
    refine aw_getR (pc := 11) C (ci := 7) (k := 9) ci7 (by decide) tw801 dX7_canPair_11 rfl hp9 hb9 ?_
    refine aw_bipush (pc := 14) C dX7_canPair_14 (i := (40 : Int)) (by decide) ?_
    refine aw_iload_n (pc := 16) C dX7_canPair_16 rfl rfl ?_
    obtain ⟨hp9, hw⟩ := hw
    refine aw_iadd (pc := 17) C dX7_canPair_17 hp9 ?_
    obtain ⟨⟨k9, hp9⟩, hw⟩ := hw
    refine aw_iald (pc := 18) C dX7_canPair_18 hp9 ?_
    refine aw_iconst (pc := 19) C dX7_canPair_19 (i := (-1 : Int)) (by decide) ?_
    refine aw_icmp_ne (pc := 20) (tgt := 27) C dX7_canPair_20 (by decide) (fun hc9 => ?_) (fun hc9 => ?_)
    · have hw := hw.1 hc9
      refine aw_sub [(0, vR a0), (1, vI a1), (2, vI a2), (3, vI a3)] ⟨rfl, rfl, rfl, rfl, trivial⟩ ?_
      exact J_27  _ hw
    · have hw := hw.2 hc9
      refine aw_iconst (pc := 23) C dX7_canPair_23 (i := (1 : Int)) (by decide) ?_
      refine aw_goto (pc := 24) (tgt := 28) C dX7_canPair_24 (by decide) ?_
      refine aw_sub [(0, vR a0), (1, vI a1), (2, vI a2), (3, vI a3)] ⟨rfl, rfl, rfl, rfl, trivial⟩ ?_
      exact J_28 _ _ hw
theorem dX7_pair_0 : decode cX7_pair 0 = .ok (.aload_n 0, 1) := by decide +kernel
theorem dX7_pair_1 : decode cX7_pair 1 = .ok (.getfield 28, 3) := by decide +kernel
theorem dX7_pair_4 : decode cX7_pair 4 = .ok (.iload_n 1, 1) := by decide +kernel
theorem dX7_pair_5 : decode cX7_pair 5 = .ok (.iload_n 2, 1) := by decide +kernel
theorem dX7_pair_6 : decode cX7_pair 6 = .ok (.iastore, 1) := by decide +kernel
theorem dX7_pair_7 : decode cX7_pair 7 = .ok (.aload_n 0, 1) := by decide +kernel
theorem dX7_pair_8 : decode cX7_pair 8 = .ok (.getfield 28, 3) := by decide +kernel
theorem dX7_pair_11 : decode cX7_pair 11 = .ok (.bipush 40, 2) := by decide +kernel
theorem dX7_pair_13 : decode cX7_pair 13 = .ok (.iload_n 2, 1) := by decide +kernel
theorem dX7_pair_14 : decode cX7_pair 14 = .ok (.iadd, 1) := by decide +kernel
theorem dX7_pair_15 : decode cX7_pair 15 = .ok (.iload_n 1, 1) := by decide +kernel
theorem dX7_pair_16 : decode cX7_pair 16 = .ok (.iastore, 1) := by decide +kernel
theorem dX7_pair_17 : decode cX7_pair 17 = .ok (.aload_n 0, 1) := by decide +kernel
theorem dX7_pair_18 : decode cX7_pair 18 = .ok (.getfield 31, 3) := by decide +kernel
theorem dX7_pair_21 : decode cX7_pair 21 = .ok (.iload_n 1, 1) := by decide +kernel
theorem dX7_pair_22 : decode cX7_pair 22 = .ok (.iload_n 3, 1) := by decide +kernel
theorem dX7_pair_23 : decode cX7_pair 23 = .ok (.iastore, 1) := by decide +kernel
theorem dX7_pair_24 : decode cX7_pair 24 = .ok (.aload_n 0, 1) := by decide +kernel
theorem dX7_pair_25 : decode cX7_pair 25 = .ok (.getfield 31, 3) := by decide +kernel
theorem dX7_pair_28 : decode cX7_pair 28 = .ok (.bipush 40, 2) := by decide +kernel
theorem dX7_pair_30 : decode cX7_pair 30 = .ok (.iload_n 2, 1) := by decide +kernel
theorem dX7_pair_31 : decode cX7_pair 31 = .ok (.iadd, 1) := by decide +kernel
theorem dX7_pair_32 : decode cX7_pair 32 = .ok (.iload_n 3, 1) := by decide +kernel
theorem dX7_pair_33 : decode cX7_pair 33 = .ok (.iastore, 1) := by decide +kernel
theorem dX7_pair_34 : decode cX7_pair 34 = .ok (.return_, 1) := by decide +kernel
theorem pd_X7_pair : (parseMethodDescriptor yX7_pair.desc).map (fun d => d.parameters.length) = some 3 := by decide +kernel
def w_X7_pair (zz : Nat → Nat) (a0 : Nat) (a1 : Int) (a2 : Int) (a3 : Int) (h : AH) (Q : AH → Prop) : Prop := okA h a0 7 ∧ ∃ b1 : Nat, hfR h a0 9 = some b1 ∧ okW h b1 a1 ∧ ∀ h6 : AH, h6 = saI h b1 (u1 (haI h b1) a1 a2) → okA h6 a0 7 ∧ ∃ b8 : Nat, hfR h6 a0 9 = some b8 ∧ inR ((40 : Int) + a2) ∧ okW h6 b8 ((40 : Int) + a2) ∧ ∀ h16 : AH, h16 = saI h6 b8 (u1 (haI h6 b8) ((40 : Int) + a2) a1) → okA h16 a0 7 ∧ ∃ b18 : Nat, hfR h16 a0 10 = some b18 ∧ okW h16 b18 a1 ∧ ∀ h23 : AH, h23 = saI h16 b18 (u1 (haI h16 b18) a1 a3) → okA h23 a0 7 ∧ ∃ b25 : Nat, hfR h23 a0 10 = some b25 ∧ inR ((40 : Int) + a2) ∧ okW h23 b25 ((40 : Int) + a2) ∧ ∀ h33 : AH, h33 = saI h23 b25 (u1 (haI h23 b25) ((40 : Int) + a2) a3) → Q h33
set_option maxRecDepth 100000 in
set_option maxHeartbeats 4000000 in
theorem met_X7_pair (G : GG) (l : Launch) : ∀ (As : List Value) (a0 : Nat) (a1 : Int) (a2 : Int) (a3 : Int) (h : AH) (Q : AH → Prop), As.map ab = List.map some ([vR a0, vI a1, vI a2, vI a3] : List AV) → w_X7_pair G.2.2 a0 a1 a2 a3 h Q → Met l yX7_pair (.code yX7_pair cX7_pair 4 none :: xTb) ({ frames := 0, cells := 0, slots := 0, locals := 0 } : Room) (PcA G As h) (QG G (oV Q)) 0 0 (frA G) := by
  intro As a0 a1 a2 a3 h Q hA hw
  refine met_of hA (by decide) (Nat.le_of_ble_eq_true rfl) (fun p e s m args below meth c C hml hr hnm => ?_)
  unfold w_X7_pair at hw
  refine aw_aload_n (pc := 0) C dX7_pair_0 rfl rfl ?_
  obtain ⟨hp9, b1, hb9, hw⟩ := hw
  refine aw_getR (pc := 1) C (ci := 7) (k := 9) ci7 (by decide) tw801 dX7_pair_1 rfl hp9 hb9 ?_
  refine aw_iload_n (pc := 4) C dX7_pair_4 rfl rfl ?_
  refine aw_iload_n (pc := 5) C dX7_pair_5 rfl rfl ?_
  obtain ⟨⟨k9, hp9⟩, hw⟩ := hw
  refine aw_iast (pc := 6) C dX7_pair_6 hp9 (aw_nmH (fun h6 e9 => ?_))
  have hw := hw h6 e9
  refine aw_aload_n (pc := 7) C dX7_pair_7 rfl rfl ?_
  obtain ⟨hp9, b8, hb9, hw⟩ := hw
  refine aw_getR (pc := 8) C (ci := 7) (k := 9) ci7 (by decide) tw801 dX7_pair_8 rfl hp9 hb9 ?_
  refine aw_bipush (pc := 11) C dX7_pair_11 (i := (40 : Int)) (by decide) ?_
  refine aw_iload_n (pc := 13) C dX7_pair_13 rfl rfl ?_
  obtain ⟨hp9, hw⟩ := hw
  refine aw_iadd (pc := 14) C dX7_pair_14 hp9 ?_
  refine aw_iload_n (pc := 15) C dX7_pair_15 rfl rfl ?_
  obtain ⟨⟨k9, hp9⟩, hw⟩ := hw
  refine aw_iast (pc := 16) C dX7_pair_16 hp9 (aw_nmH (fun h16 e9 => ?_))
  have hw := hw h16 e9
  refine aw_aload_n (pc := 17) C dX7_pair_17 rfl rfl ?_
  obtain ⟨hp9, b18, hb9, hw⟩ := hw
  refine aw_getR (pc := 18) C (ci := 7) (k := 10) ci7 (by decide) tw802 dX7_pair_18 rfl hp9 hb9 ?_
  refine aw_iload_n (pc := 21) C dX7_pair_21 rfl rfl ?_
  refine aw_iload_n (pc := 22) C dX7_pair_22 rfl rfl ?_
  obtain ⟨⟨k9, hp9⟩, hw⟩ := hw
  refine aw_iast (pc := 23) C dX7_pair_23 hp9 (aw_nmH (fun h23 e9 => ?_))
  have hw := hw h23 e9
  refine aw_aload_n (pc := 24) C dX7_pair_24 rfl rfl ?_
  obtain ⟨hp9, b25, hb9, hw⟩ := hw
  refine aw_getR (pc := 25) C (ci := 7) (k := 10) ci7 (by decide) tw802 dX7_pair_25 rfl hp9 hb9 ?_
  refine aw_bipush (pc := 28) C dX7_pair_28 (i := (40 : Int)) (by decide) ?_
  refine aw_iload_n (pc := 30) C dX7_pair_30 rfl rfl ?_
  obtain ⟨hp9, hw⟩ := hw
  refine aw_iadd (pc := 31) C dX7_pair_31 hp9 ?_
  refine aw_iload_n (pc := 32) C dX7_pair_32 rfl rfl ?_
  obtain ⟨⟨k9, hp9⟩, hw⟩ := hw
  refine aw_iast (pc := 33) C dX7_pair_33 hp9 (aw_nmH (fun h33 e9 => ?_))
  have hw := hw h33 e9
  exact aw_vret (pc := 34) C hr dX7_pair_34 ⟨Nat.le_of_ble_eq_true rfl, Nat.le_of_ble_eq_true rfl⟩ ⟨rfl, hw⟩
theorem dX7_layNearest_0 : decode cX7_layNearest 0 = .ok (.iconst 1, 1) := by decide +kernel
theorem dX7_layNearest_1 : decode cX7_layNearest 1 = .ok (.istore_n 2, 1) := by decide +kernel
theorem dX7_layNearest_2 : decode cX7_layNearest 2 = .ok (.iload_n 2, 1) := by decide +kernel
theorem dX7_layNearest_3 : decode cX7_layNearest 3 = .ok (.ifCond .eq 116, 3) := by decide +kernel
theorem dX7_layNearest_6 : decode cX7_layNearest 6 = .ok (.iconst (-1), 1) := by decide +kernel
theorem dX7_layNearest_7 : decode cX7_layNearest 7 = .ok (.istore_n 3, 1) := by decide +kernel
theorem dX7_layNearest_8 : decode cX7_layNearest 8 = .ok (.iconst (-1), 1) := by decide +kernel
theorem dX7_layNearest_9 : decode cX7_layNearest 9 = .ok (.istore 4, 2) := by decide +kernel
theorem dX7_layNearest_11 : decode cX7_layNearest 11 = .ok (.iconst 0, 1) := by decide +kernel
theorem dX7_layNearest_12 : decode cX7_layNearest 12 = .ok (.istore 5, 2) := by decide +kernel
theorem dX7_layNearest_14 : decode cX7_layNearest 14 = .ok (.iload 5, 2) := by decide +kernel
theorem dX7_layNearest_16 : decode cX7_layNearest 16 = .ok (.aload_n 0, 1) := by decide +kernel
theorem dX7_layNearest_17 : decode cX7_layNearest 17 = .ok (.getfield 19, 3) := by decide +kernel
theorem dX7_layNearest_20 : decode cX7_layNearest 20 = .ok (.iconst 0, 1) := by decide +kernel
theorem dX7_layNearest_21 : decode cX7_layNearest 21 = .ok (.iaload, 1) := by decide +kernel
theorem dX7_layNearest_22 : decode cX7_layNearest 22 = .ok (.if_icmp .ge 71, 3) := by decide +kernel
theorem dX7_layNearest_25 : decode cX7_layNearest 25 = .ok (.iconst 0, 1) := by decide +kernel
theorem dX7_layNearest_26 : decode cX7_layNearest 26 = .ok (.istore 6, 2) := by decide +kernel
theorem dX7_layNearest_28 : decode cX7_layNearest 28 = .ok (.iload 6, 2) := by decide +kernel
theorem dX7_layNearest_30 : decode cX7_layNearest 30 = .ok (.aload_n 0, 1) := by decide +kernel
theorem dX7_layNearest_31 : decode cX7_layNearest 31 = .ok (.getfield 19, 3) := by decide +kernel
theorem dX7_layNearest_34 : decode cX7_layNearest 34 = .ok (.iconst 1, 1) := by decide +kernel
theorem dX7_layNearest_35 : decode cX7_layNearest 35 = .ok (.iaload, 1) := by decide +kernel
theorem dX7_layNearest_36 : decode cX7_layNearest 36 = .ok (.if_icmp .ge 51, 3) := by decide +kernel
theorem dX7_layNearest_39 : decode cX7_layNearest 39 = .ok (.aload_n 0, 1) := by decide +kernel
theorem dX7_layNearest_40 : decode cX7_layNearest 40 = .ok (.iload 5, 2) := by decide +kernel
theorem dX7_layNearest_42 : decode cX7_layNearest 42 = .ok (.iload 6, 2) := by decide +kernel
theorem dX7_layNearest_44 : decode cX7_layNearest 44 = .ok (.iload_n 1, 1) := by decide +kernel
theorem dX7_layNearest_45 : decode cX7_layNearest 45 = .ok (.invokevirtual 88, 3) := by decide +kernel
theorem dX7_layNearest_48 : decode cX7_layNearest 48 = .ok (.ifCond .eq 33, 3) := by decide +kernel
theorem dX7_layNearest_51 : decode cX7_layNearest 51 = .ok (.iload_n 3, 1) := by decide +kernel
theorem dX7_layNearest_52 : decode cX7_layNearest 52 = .ok (.iconst (-1), 1) := by decide +kernel
theorem dX7_layNearest_53 : decode cX7_layNearest 53 = .ok (.if_icmp .eq 21, 3) := by decide +kernel
theorem dX7_layNearest_56 : decode cX7_layNearest 56 = .ok (.aload_n 0, 1) := by decide +kernel
theorem dX7_layNearest_57 : decode cX7_layNearest 57 = .ok (.iload 5, 2) := by decide +kernel
theorem dX7_layNearest_59 : decode cX7_layNearest 59 = .ok (.iload 6, 2) := by decide +kernel
theorem dX7_layNearest_61 : decode cX7_layNearest 61 = .ok (.invokevirtual 84, 3) := by decide +kernel
theorem dX7_layNearest_64 : decode cX7_layNearest 64 = .ok (.aload_n 0, 1) := by decide +kernel
theorem dX7_layNearest_65 : decode cX7_layNearest 65 = .ok (.iload_n 3, 1) := by decide +kernel
theorem dX7_layNearest_66 : decode cX7_layNearest 66 = .ok (.iload 4, 2) := by decide +kernel
theorem dX7_layNearest_68 : decode cX7_layNearest 68 = .ok (.invokevirtual 84, 3) := by decide +kernel
theorem dX7_layNearest_71 : decode cX7_layNearest 71 = .ok (.if_icmp .ge 10, 3) := by decide +kernel
theorem dX7_layNearest_74 : decode cX7_layNearest 74 = .ok (.iload 5, 2) := by decide +kernel
theorem dX7_layNearest_76 : decode cX7_layNearest 76 = .ok (.istore_n 3, 1) := by decide +kernel
theorem dX7_layNearest_77 : decode cX7_layNearest 77 = .ok (.iload 6, 2) := by decide +kernel
theorem dX7_layNearest_79 : decode cX7_layNearest 79 = .ok (.istore 4, 2) := by decide +kernel
theorem dX7_layNearest_81 : decode cX7_layNearest 81 = .ok (.iinc 6 1, 3) := by decide +kernel
theorem dX7_layNearest_84 : decode cX7_layNearest 84 = .ok (.goto (-56), 3) := by decide +kernel
theorem dX7_layNearest_87 : decode cX7_layNearest 87 = .ok (.iinc 5 1, 3) := by decide +kernel
theorem dX7_layNearest_90 : decode cX7_layNearest 90 = .ok (.goto (-76), 3) := by decide +kernel
theorem dX7_layNearest_93 : decode cX7_layNearest 93 = .ok (.iload_n 3, 1) := by decide +kernel
theorem dX7_layNearest_94 : decode cX7_layNearest 94 = .ok (.iconst (-1), 1) := by decide +kernel
theorem dX7_layNearest_95 : decode cX7_layNearest 95 = .ok (.if_icmp .eq 7, 3) := by decide +kernel
theorem dX7_layNearest_98 : decode cX7_layNearest 98 = .ok (.iconst 1, 1) := by decide +kernel
theorem dX7_layNearest_99 : decode cX7_layNearest 99 = .ok (.goto 4, 3) := by decide +kernel
theorem dX7_layNearest_102 : decode cX7_layNearest 102 = .ok (.iconst 0, 1) := by decide +kernel
theorem dX7_layNearest_103 : decode cX7_layNearest 103 = .ok (.istore_n 2, 1) := by decide +kernel
theorem dX7_layNearest_104 : decode cX7_layNearest 104 = .ok (.iload_n 2, 1) := by decide +kernel
theorem dX7_layNearest_105 : decode cX7_layNearest 105 = .ok (.ifCond .eq 11, 3) := by decide +kernel
theorem dX7_layNearest_108 : decode cX7_layNearest 108 = .ok (.aload_n 0, 1) := by decide +kernel
theorem dX7_layNearest_109 : decode cX7_layNearest 109 = .ok (.iload_n 3, 1) := by decide +kernel
theorem dX7_layNearest_110 : decode cX7_layNearest 110 = .ok (.iload 4, 2) := by decide +kernel
theorem dX7_layNearest_112 : decode cX7_layNearest 112 = .ok (.iload_n 1, 1) := by decide +kernel
theorem dX7_layNearest_113 : decode cX7_layNearest 113 = .ok (.invokevirtual 80, 3) := by decide +kernel
theorem dX7_layNearest_116 : decode cX7_layNearest 116 = .ok (.goto (-114), 3) := by decide +kernel
theorem dX7_layNearest_119 : decode cX7_layNearest 119 = .ok (.return_, 1) := by decide +kernel
theorem pd_X7_layNearest : (parseMethodDescriptor yX7_layNearest.desc).map (fun d => d.parameters.length) = some 1 := by decide +kernel
def w_X7_layNearest (zz : Nat → Nat) (a0 : Nat) (a1 : Int) (h : AH) (Q : AH → Prop) : Prop := ∃ I_2 : Nat → Int → AH → Prop, (∃ n, I_2 n (1 : Int) h) ∧ ∀ (n_2 : Nat) (x2_2 : Int) (h_2 : AH), I_2 n_2 x2_2 h_2 → (((x2_2 = 0) → Q h_2) ∧ ((¬ (x2_2 = 0)) → ∃ I_14 : Nat → Int → Int → Int → AH → Prop, (∃ n, I_14 n (-1 : Int) (-1 : Int) (0 : Int) h_2) ∧ ∀ (n_14 : Nat) (x3_14 : Int) (x4_14 : Int) (x5_14 : Int) (h_14 : AH), I_14 n_14 x3_14 x4_14 x5_14 h_14 → (okA h_14 a0 7 ∧ ∃ b17 : Nat, hfR h_14 a0 6 = some b17 ∧ okI h_14 b17 (0 : Int) ∧ (((haI h_14 b17 (0 : Int)) ≤ x5_14) → jn (fun (t0_103 : Int) (h_103 : AH) => jn (fun  (h_116 : AH) => ∃ m, m < n_2 ∧ I_2 m t0_103 h_116) (fun k_116 : AH → Prop => ((t0_103 = 0) → k_116  h_103) ∧ ((¬ (t0_103 = 0)) → okA h_103 a0 7 ∧ w_X7_pair zz a0 x3_14 x4_14 a1 h_103 (fun  (h113 : AH) => k_116  h113)))) (fun k_103 : Int → AH → Prop => ((x3_14 = (-1 : Int)) → k_103 (0 : Int) h_14) ∧ ((¬ (x3_14 = (-1 : Int))) → k_103 (1 : Int) h_14))) ∧ ((¬ ((haI h_14 b17 (0 : Int)) ≤ x5_14)) → ∃ I_28 : Nat → Int → Int → Int → AH → Prop, (∃ n, I_28 n x3_14 x4_14 (0 : Int) h_14) ∧ ∀ (n_28 : Nat) (x3_28 : Int) (x4_28 : Int) (x6_28 : Int) (h_28 : AH), I_28 n_28 x3_28 x4_28 x6_28 h_28 → (okA h_28 a0 7 ∧ ∃ b31 : Nat, hfR h_28 a0 6 = some b31 ∧ okI h_28 b31 (1 : Int) ∧ (((haI h_28 b31 (1 : Int)) ≤ x6_28) → inR (x5_14 + 1) ∧ ∀ x5_87 : Int, x5_87 = (x5_14 + 1) → ∃ m, m < n_14 ∧ I_14 m x3_28 x4_28 x5_87 h_28) ∧ ((¬ ((haI h_28 b31 (1 : Int)) ≤ x6_28)) → okA h_28 a0 7 ∧ w_X7_canPair zz a0 x5_14 x6_28 a1 h_28 (fun (r45 : Int) (h45 : AH) => jn (fun (x3_81 : Int) (x4_81 : Int) (h_81 : AH) => inR (x6_28 + 1) ∧ ∀ x6_81 : Int, x6_81 = (x6_28 + 1) → ∃ m, m < n_28 ∧ I_28 m x3_81 x4_81 x6_81 h_81) (fun k_81 : Int → Int → AH → Prop => ((r45 = 0) → k_81 x3_28 x4_28 h45) ∧ ((¬ (r45 = 0)) → jn (fun  (h_74 : AH) => k_81 x5_14 x6_28 h_74) (fun k_74 : AH → Prop => ((x3_28 = (-1 : Int)) → k_74  h45) ∧ ((¬ (x3_28 = (-1 : Int))) → okA h45 a0 7 ∧ w_X7_distance zz a0 x5_14 x6_28 h45 (fun (r61 : Int) (h61 : AH) => okA h61 a0 7 ∧ w_X7_distance zz a0 x3_28 x4_28 h61 (fun (r68 : Int) (h68 : AH) => ((r68 ≤ r61) → k_81 x3_28 x4_28 h68) ∧ ((¬ (r68 ≤ r61)) → k_74  h68))))))))))))))
set_option maxRecDepth 100000 in
set_option maxHeartbeats 4000000 in
theorem met_X7_layNearest (G : GG) (l : Launch) : ∀ (As : List Value) (a0 : Nat) (a1 : Int) (h : AH) (Q : AH → Prop), As.map ab = List.map some ([vR a0, vI a1] : List AV) → w_X7_layNearest G.2.2 a0 a1 h Q → Met l yX7_layNearest (.code yX7_layNearest cX7_layNearest 7 none :: xTb) ({ frames := 3, cells := 0, slots := 0, locals := 71 } : Room) (PcA G As h) (QG G (oV Q)) 0 0 (frA G) := by
  intro As a0 a1 h Q hA hw
  refine met_of hA (by decide) (Nat.le_of_ble_eq_true rfl) (fun p e s m args below meth c C hml hr hnm => ?_)
  unfold w_X7_layNearest at hw
  refine aw_iconst (pc := 0) C dX7_layNearest_0 (i := (1 : Int)) (by decide) ?_
  refine aw_istore_n (pc := 1) C dX7_layNearest_1 rfl (by rw [hml]; decide) ?_
  obtain ⟨I_2, ⟨n9, hi9⟩, hst9⟩ := hw
  have L_2 : ∀ (n_2 : Nat) (x2_2 : Int) (h_2 : AH), I_2 n_2 x2_2 h_2 → AW G p l e ({ frames := 3, cells := 0, slots := 0, locals := 71 } : Room) s m args below meth c 0 0 (MQ below (QG G (oV Q)) args s 0 0 (frA G)) 2 (eOf [(0, vR a0), (1, vI a1), (2, vI x2_2)]) [] h_2 := by
    intro n_2
    induction n_2 using Nat.strongRecOn with
    | _ n_2 ih_2 =>
    intro x2_2 h_2 hi9
    have hw := hst9 n_2 x2_2 h_2 hi9
    refine aw_iload_n (pc := 2) C dX7_layNearest_2 rfl rfl ?_
    refine aw_if_eq (pc := 3) (tgt := 119) C dX7_layNearest_3 (by decide) (fun hc9 => ?_) (fun hc9 => ?_)
    · have hw := hw.1 hc9
      exact aw_vret (pc := 119) C hr dX7_layNearest_119 ⟨Nat.le_of_ble_eq_true rfl, Nat.le_of_ble_eq_true rfl⟩ ⟨rfl, hw⟩
    · have hw := hw.2 hc9
      refine aw_iconst (pc := 6) C dX7_layNearest_6 (i := (-1 : Int)) (by decide) ?_
      refine aw_istore_n (pc := 7) C dX7_layNearest_7 rfl (by rw [hml]; decide) ?_
      refine aw_iconst (pc := 8) C dX7_layNearest_8 (i := (-1 : Int)) (by decide) ?_
      refine aw_istore (pc := 9) C dX7_layNearest_9 (by rw [hml]; decide) ?_
      refine aw_iconst (pc := 11) C dX7_layNearest_11 (i := (0 : Int)) (by decide) ?_
      refine aw_istore (pc := 12) C dX7_layNearest_12 (by rw [hml]; decide) ?_
      obtain ⟨I_14, ⟨n9, hi9⟩, hst9⟩ := hw
      have L_14 : ∀ (n_14 : Nat) (x3_14 : Int) (x4_14 : Int) (x5_14 : Int) (h_14 : AH), I_14 n_14 x3_14 x4_14 x5_14 h_14 → AW G p l e ({ frames := 3, cells := 0, slots := 0, locals := 71 } : Room) s m args below meth c 0 0 (MQ below (QG G (oV Q)) args s 0 0 (frA G)) 14 (eOf [(0, vR a0), (1, vI a1), (3, vI x3_14), (4, vI x4_14), (5, vI x5_14)]) [] h_14 := by
        intro n_14
        induction n_14 using Nat.strongRecOn with
        | _ n_14 ih_14 =>
        intro x3_14 x4_14 x5_14 h_14 hi9
        have hw := hst9 n_14 x3_14 x4_14 x5_14 h_14 hi9
        refine aw_iload (pc := 14) C dX7_layNearest_14 rfl ?_
        refine aw_aload_n (pc := 16) C dX7_layNearest_16 rfl rfl ?_
        obtain ⟨hp9, b17, hb9, hw⟩ := hw
        refine aw_getR (pc := 17) C (ci := 7) (k := 6) ci7 (by decide) tw798 dX7_layNearest_17 rfl hp9 hb9 ?_
        refine aw_iconst (pc := 20) C dX7_layNearest_20 (i := (0 : Int)) (by decide) ?_
        obtain ⟨⟨k9, hp9⟩, hw⟩ := hw
        refine aw_iald (pc := 21) C dX7_layNearest_21 hp9 ?_
        refine aw_icmp_ge (pc := 22) (tgt := 93) C dX7_layNearest_22 (by decide) (fun hc9 => ?_) (fun hc9 => ?_)
        · have hw := hw.1 hc9
          refine aw_iload_n (pc := 93) C dX7_layNearest_93 rfl rfl ?_
          refine aw_iconst (pc := 94) C dX7_layNearest_94 (i := (-1 : Int)) (by decide) ?_
          obtain ⟨k_103, hk_103, hw⟩ := jn_out hw
          have J_103 : ∀ (t0_103 : Int) (h_103 : AH), k_103 t0_103 h_103 → AW G p l e ({ frames := 3, cells := 0, slots := 0, locals := 71 } : Room) s m args below meth c 0 0 (MQ below (QG G (oV Q)) args s 0 0 (frA G)) 103 (eOf [(0, vR a0), (1, vI a1), (3, vI x3_14), (4, vI x4_14)]) [vI t0_103] h_103 := by
            intro t0_103 h_103 hw
            rw [hk_103] at hw
            refine aw_istore_n (pc := 103) C dX7_layNearest_103 rfl (by rw [hml]; decide) ?_
            refine aw_iload_n (pc := 104) C dX7_layNearest_104 rfl rfl ?_
            obtain ⟨k_116, hk_116, hw⟩ := jn_out hw
            have J_116 : ∀  (h_116 : AH), k_116  h_116 → AW G p l e ({ frames := 3, cells := 0, slots := 0, locals := 71 } : Room) s m args below meth c 0 0 (MQ below (QG G (oV Q)) args s 0 0 (frA G)) 116 (eOf [(0, vR a0), (1, vI a1), (2, vI t0_103)]) [] h_116 := by
              intro  h_116 hw
              rw [hk_116] at hw
              refine aw_goto (pc := 116) (tgt := 2) C dX7_layNearest_116 (by decide) ?_
              obtain ⟨m9, hm9, hw⟩ := hw
              refine aw_sub [(0, vR a0), (1, vI a1), (2, vI t0_103)] ⟨rfl, rfl, rfl, trivial⟩ ?_
              exact ih_2 m9 hm9 _ _ hw
            refine aw_if_eq (pc := 105) (tgt := 116) C dX7_layNearest_105 (by decide) (fun hc9 => ?_) (fun hc9 => ?_)
            · have hw := hw.1 hc9
              refine aw_sub [(0, vR a0), (1, vI a1), (2, vI t0_103)] ⟨rfl, rfl, rfl, trivial⟩ ?_
              exact J_116  _ hw
            · have hw := hw.2 hc9
              refine aw_aload_n (pc := 108) C dX7_layNearest_108 rfl rfl ?_
              refine aw_iload_n (pc := 109) C dX7_layNearest_109 rfl rfl ?_
              refine aw_iload (pc := 110) C dX7_layNearest_110 rfl ?_
              refine aw_iload_n (pc := 112) C dX7_layNearest_112 rfl rfl ?_
              obtain ⟨hp9, hw⟩ := hw
              refine aw_callV (pc := 113) (as := [vI x3_14, vI x4_14, vI a1]) C ci7 (fun As hA => met_X7_pair G l As a0 x3_14 x4_14 a1 _ _ hA hw) tw926 tw928 (tbp 42 (n := 21) (by decide +kernel)) tw10 tw929 ⟨rfl, rfl⟩ ⟨rfl, by decide, by decide, pd_X7_pair⟩ ⟨Nat.le_of_ble_eq_true rfl, Nat.le_of_ble_eq_true rfl⟩ ⟨Nat.zero_le _, Nat.zero_le _⟩ (Nat.le_of_ble_eq_true rfl) dX7_layNearest_113 rfl hp9 (fun v9 h113 hq9 => ?_)
              obtain ⟨rfl, hw⟩ := hq9
              refine aw_sub [(0, vR a0), (1, vI a1), (2, vI t0_103)] ⟨rfl, rfl, rfl, trivial⟩ ?_
              exact J_116  _ hw
          refine aw_icmp_eq (pc := 95) (tgt := 102) C dX7_layNearest_95 (by decide) (fun hc9 => ?_) (fun hc9 => ?_)
          · have hw := hw.1 hc9
            refine aw_iconst (pc := 102) C dX7_layNearest_102 (i := (0 : Int)) (by decide) ?_
            refine aw_sub [(0, vR a0), (1, vI a1), (3, vI x3_14), (4, vI x4_14)] ⟨rfl, rfl, rfl, rfl, trivial⟩ ?_
            exact J_103 _ _ hw
          · have hw := hw.2 hc9
            refine aw_iconst (pc := 98) C dX7_layNearest_98 (i := (1 : Int)) (by decide) ?_
            refine aw_goto (pc := 99) (tgt := 103) C dX7_layNearest_99 (by decide) ?_
            refine aw_sub [(0, vR a0), (1, vI a1), (3, vI x3_14), (4, vI x4_14)] ⟨rfl, rfl, rfl, rfl, trivial⟩ ?_
            exact J_103 _ _ hw
        · have hw := hw.2 hc9
          refine aw_iconst (pc := 25) C dX7_layNearest_25 (i := (0 : Int)) (by decide) ?_
          refine aw_istore (pc := 26) C dX7_layNearest_26 (by rw [hml]; decide) ?_
          obtain ⟨I_28, ⟨n9, hi9⟩, hst9⟩ := hw
          have L_28 : ∀ (n_28 : Nat) (x3_28 : Int) (x4_28 : Int) (x6_28 : Int) (h_28 : AH), I_28 n_28 x3_28 x4_28 x6_28 h_28 → AW G p l e ({ frames := 3, cells := 0, slots := 0, locals := 71 } : Room) s m args below meth c 0 0 (MQ below (QG G (oV Q)) args s 0 0 (frA G)) 28 (eOf [(0, vR a0), (1, vI a1), (3, vI x3_28), (4, vI x4_28), (5, vI x5_14), (6, vI x6_28)]) [] h_28 := by
            intro n_28
            induction n_28 using Nat.strongRecOn with
            | _ n_28 ih_28 =>
            intro x3_28 x4_28 x6_28 h_28 hi9
            have hw := hst9 n_28 x3_28 x4_28 x6_28 h_28 hi9
            refine aw_iload (pc := 28) C dX7_layNearest_28 rfl ?_
            refine aw_aload_n (pc := 30) C dX7_layNearest_30 rfl rfl ?_
            obtain ⟨hp9, b31, hb9, hw⟩ := hw
            refine aw_getR (pc := 31) C (ci := 7) (k := 6) ci7 (by decide) tw798 dX7_layNearest_31 rfl hp9 hb9 ?_
            refine aw_iconst (pc := 34) C dX7_layNearest_34 (i := (1 : Int)) (by decide) ?_
            obtain ⟨⟨k9, hp9⟩, hw⟩ := hw
            refine aw_iald (pc := 35) C dX7_layNearest_35 hp9 ?_
            refine aw_icmp_ge (pc := 36) (tgt := 87) C dX7_layNearest_36 (by decide) (fun hc9 => ?_) (fun hc9 => ?_)
            · have hw := hw.1 hc9
              obtain ⟨hp9, hw⟩ := hw
              refine aw_iincN (pc := 87) C dX7_layNearest_87 (k := 1) (by decide) rfl (by rw [hml]; decide) hp9 (fun x5_87 e9 => ?_)
              have hw := hw x5_87 e9
              refine aw_goto (pc := 90) (tgt := 14) C dX7_layNearest_90 (by decide) ?_
              obtain ⟨m9, hm9, hw⟩ := hw
              refine aw_sub [(0, vR a0), (1, vI a1), (3, vI x3_28), (4, vI x4_28), (5, vI x5_87)] ⟨rfl, rfl, rfl, rfl, rfl, trivial⟩ ?_
              exact ih_14 m9 hm9 _ _ _ _ hw
            · have hw := hw.2 hc9
              refine aw_aload_n (pc := 39) C dX7_layNearest_39 rfl rfl ?_
              refine aw_iload (pc := 40) C dX7_layNearest_40 rfl ?_
              refine aw_iload (pc := 42) C dX7_layNearest_42 rfl ?_
              refine aw_iload_n (pc := 44) C dX7_layNearest_44 rfl rfl ?_
              obtain ⟨hp9, hw⟩ := hw
              refine aw_callV (pc := 45) (as := [vI x5_14, vI x6_28, vI a1]) C ci7 (fun As hA => met_X7_canPair G l As a0 x5_14 x6_28 a1 _ _ hA hw) tw934 tw936 (tbp 44 (n := 21) (by decide +kernel)) tw10 tw937 ⟨rfl, rfl⟩ ⟨rfl, by decide, by decide, pd_X7_canPair⟩ ⟨Nat.le_of_ble_eq_true rfl, Nat.le_of_ble_eq_true rfl⟩ ⟨Nat.zero_le _, Nat.zero_le _⟩ (Nat.le_of_ble_eq_true rfl) dX7_layNearest_45 rfl hp9 (fun v9 h45 hq9 => ?_)
              obtain ⟨r45, rfl, hw⟩ := hq9
              obtain ⟨k_81, hk_81, hw⟩ := jn_out hw
              have J_81 : ∀ (x3_81 : Int) (x4_81 : Int) (h_81 : AH), k_81 x3_81 x4_81 h_81 → AW G p l e ({ frames := 3, cells := 0, slots := 0, locals := 71 } : Room) s m args below meth c 0 0 (MQ below (QG G (oV Q)) args s 0 0 (frA G)) 81 (eOf [(0, vR a0), (1, vI a1), (3, vI x3_81), (4, vI x4_81), (5, vI x5_14), (6, vI x6_28)]) [] h_81 := by
                intro x3_81 x4_81 h_81 hw
                rw [hk_81] at hw
                obtain ⟨hp9, hw⟩ := hw
                refine aw_iincN (pc := 81) C dX7_layNearest_81 (k := 1) (by decide) rfl (by rw [hml]; decide) hp9 (fun x6_81 e9 => ?_)
                have hw := hw x6_81 e9
                refine aw_goto (pc := 84) (tgt := 28) C dX7_layNearest_84 (by decide) ?_
                obtain ⟨m9, hm9, hw⟩ := hw
                refine aw_sub [(0, vR a0), (1, vI a1), (3, vI x3_81), (4, vI x4_81), (5, vI x5_14), (6, vI x6_81)] ⟨rfl, rfl, rfl, rfl, rfl, rfl, trivial⟩ ?_
                exact ih_28 m9 hm9 _ _ _ _ hw
              refine aw_if_eq (pc := 48) (tgt := 81) C dX7_layNearest_48 (by decide) (fun hc9 => ?_) (fun hc9 => ?_)
              · have hw := hw.1 hc9
                refine aw_sub [(0, vR a0), (1, vI a1), (3, vI x3_28), (4, vI x4_28), (5, vI x5_14), (6, vI x6_28)] ⟨rfl, rfl, rfl, rfl, rfl, rfl, trivial⟩ ?_
                exact J_81 _ _ _ hw
              · have hw := hw.2 hc9
                refine aw_iload_n (pc := 51) C dX7_layNearest_51 rfl rfl ?_
                refine aw_iconst (pc := 52) C dX7_layNearest_52 (i := (-1 : Int)) (by decide) ?_
                obtain ⟨k_74, hk_74, hw⟩ := jn_out hw
                have J_74 : ∀  (h_74 : AH), k_74  h_74 → AW G p l e ({ frames := 3, cells := 0, slots := 0, locals := 71 } : Room) s m args below meth c 0 0 (MQ below (QG G (oV Q)) args s 0 0 (frA G)) 74 (eOf [(0, vR a0), (1, vI a1), (5, vI x5_14), (6, vI x6_28)]) [] h_74 := by
                  intro  h_74 hw
                  rw [hk_74] at hw
                  refine aw_iload (pc := 74) C dX7_layNearest_74 rfl ?_
                  refine aw_istore_n (pc := 76) C dX7_layNearest_76 rfl (by rw [hml]; decide) ?_
                  refine aw_iload (pc := 77) C dX7_layNearest_77 rfl ?_
                  refine aw_istore (pc := 79) C dX7_layNearest_79 (by rw [hml]; decide) ?_
                  refine aw_sub [(0, vR a0), (1, vI a1), (3, vI x5_14), (4, vI x6_28), (5, vI x5_14), (6, vI x6_28)] ⟨rfl, rfl, rfl, rfl, rfl, rfl, trivial⟩ ?_
                  exact J_81 _ _ _ hw
                refine aw_icmp_eq (pc := 53) (tgt := 74) C dX7_layNearest_53 (by decide) (fun hc9 => ?_) (fun hc9 => ?_)
                · have hw := hw.1 hc9
                  refine aw_sub [(0, vR a0), (1, vI a1), (5, vI x5_14), (6, vI x6_28)] ⟨rfl, rfl, rfl, rfl, trivial⟩ ?_
                  exact J_74  _ hw
                · have hw := hw.2 hc9
                  refine aw_aload_n (pc := 56) C dX7_layNearest_56 rfl rfl ?_
                  refine aw_iload (pc := 57) C dX7_layNearest_57 rfl ?_
                  refine aw_iload (pc := 59) C dX7_layNearest_59 rfl ?_
                  obtain ⟨hp9, hw⟩ := hw
                  refine aw_callV (pc := 61) (as := [vI x5_14, vI x6_28]) C ci7 (fun As hA => met_X7_distance G l As a0 x5_14 x6_28 _ _ hA hw) tw938 tw940 (tbp 45 (n := 21) (by decide +kernel)) tw10 tw941 ⟨rfl, rfl⟩ ⟨rfl, by decide, by decide, pd_X7_distance⟩ ⟨Nat.le_of_ble_eq_true rfl, Nat.le_of_ble_eq_true rfl⟩ ⟨Nat.zero_le _, Nat.zero_le _⟩ (Nat.le_of_ble_eq_true rfl) dX7_layNearest_61 rfl hp9 (fun v9 h61 hq9 => ?_)
                  obtain ⟨r61, rfl, hw⟩ := hq9
                  refine aw_aload_n (pc := 64) C dX7_layNearest_64 rfl rfl ?_
                  refine aw_iload_n (pc := 65) C dX7_layNearest_65 rfl rfl ?_
                  refine aw_iload (pc := 66) C dX7_layNearest_66 rfl ?_
                  obtain ⟨hp9, hw⟩ := hw
                  refine aw_callV (pc := 68) (as := [vI x3_28, vI x4_28]) C ci7 (fun As hA => met_X7_distance G l As a0 x3_28 x4_28 _ _ hA hw) tw938 tw940 (tbp 45 (n := 21) (by decide +kernel)) tw10 tw941 ⟨rfl, rfl⟩ ⟨rfl, by decide, by decide, pd_X7_distance⟩ ⟨Nat.le_of_ble_eq_true rfl, Nat.le_of_ble_eq_true rfl⟩ ⟨Nat.zero_le _, Nat.zero_le _⟩ (Nat.le_of_ble_eq_true rfl) dX7_layNearest_68 rfl hp9 (fun v9 h68 hq9 => ?_)
                  obtain ⟨r68, rfl, hw⟩ := hq9
                  refine aw_icmp_ge (pc := 71) (tgt := 81) C dX7_layNearest_71 (by decide) (fun hc9 => ?_) (fun hc9 => ?_)
                  · have hw := hw.1 hc9
                    refine aw_sub [(0, vR a0), (1, vI a1), (3, vI x3_28), (4, vI x4_28), (5, vI x5_14), (6, vI x6_28)] ⟨rfl, rfl, rfl, rfl, rfl, rfl, trivial⟩ ?_
                    exact J_81 _ _ _ hw
                  · have hw := hw.2 hc9
                    refine aw_sub [(0, vR a0), (1, vI a1), (5, vI x5_14), (6, vI x6_28)] ⟨rfl, rfl, rfl, rfl, trivial⟩ ?_
                    exact J_74  _ hw
          refine aw_sub [(0, vR a0), (1, vI a1), (3, vI x3_14), (4, vI x4_14), (5, vI x5_14), (6, vI (0 : Int))] ⟨rfl, rfl, rfl, rfl, rfl, rfl, trivial⟩ ?_
          exact L_28 n9 _ _ _ _ hi9
      refine aw_sub [(0, vR a0), (1, vI a1), (3, vI (-1 : Int)), (4, vI (-1 : Int)), (5, vI (0 : Int))] ⟨rfl, rfl, rfl, rfl, rfl, trivial⟩ ?_
      exact L_14 n9 _ _ _ _ hi9
  refine aw_sub [(0, vR a0), (1, vI a1), (2, vI (1 : Int))] ⟨rfl, rfl, rfl, trivial⟩ ?_
  exact L_2 n9 _ _ hi9
theorem dX7_within_0 : decode cX7_within 0 = .ok (.iload_n 0, 1) := by decide +kernel
theorem dX7_within_1 : decode cX7_within 1 = .ok (.iload_n 1, 1) := by decide +kernel
theorem dX7_within_2 : decode cX7_within 2 = .ok (.if_icmp .lt 12, 3) := by decide +kernel
theorem dX7_within_5 : decode cX7_within 5 = .ok (.iload_n 0, 1) := by decide +kernel
theorem dX7_within_6 : decode cX7_within 6 = .ok (.iload_n 2, 1) := by decide +kernel
theorem dX7_within_7 : decode cX7_within 7 = .ok (.if_icmp .gt 7, 3) := by decide +kernel
theorem dX7_within_10 : decode cX7_within 10 = .ok (.iconst 1, 1) := by decide +kernel
theorem dX7_within_11 : decode cX7_within 11 = .ok (.goto 4, 3) := by decide +kernel
theorem dX7_within_14 : decode cX7_within 14 = .ok (.iconst 0, 1) := by decide +kernel
theorem dX7_within_15 : decode cX7_within 15 = .ok (.ireturn, 1) := by decide +kernel
theorem pd_X7_within : (parseMethodDescriptor yX7_within.desc).map (fun d => d.parameters.length) = some 3 := by decide +kernel
def w_X7_within (zz : Nat → Nat) (a0 : Int) (a1 : Int) (a2 : Int) (h : AH) (Q : Int → AH → Prop) : Prop := jn (fun (t0_15 : Int) (h_15 : AH) => (t0_15 = 0 ∨ t0_15 = 1) ∧ Q t0_15 h_15) (fun k_15 : Int → AH → Prop => jn (fun  (h_14 : AH) => k_15 (0 : Int) h_14) (fun k_14 : AH → Prop => ((a0 < a1) → k_14  h) ∧ ((¬ (a0 < a1)) → ((a2 < a0) → k_14  h) ∧ ((¬ (a2 < a0)) → k_15 (1 : Int) h))))
set_option maxRecDepth 100000 in
set_option maxHeartbeats 4000000 in
theorem met_X7_within (G : GG) (l : Launch) : ∀ (As : List Value) (a0 : Int) (a1 : Int) (a2 : Int) (h : AH) (Q : Int → AH → Prop), As.map ab = List.map some ([vI a0, vI a1, vI a2] : List AV) → w_X7_within G.2.2 a0 a1 a2 h Q → Met l yX7_within (.code yX7_within cX7_within 3 (some .boolean) :: xTb) ({ frames := 0, cells := 0, slots := 0, locals := 0 } : Room) (PcA G As h) (QG G (oI Q)) 0 0 (frA G) := by
  intro As a0 a1 a2 h Q hA hw
  refine met_of hA (by decide) (Nat.le_of_ble_eq_true rfl) (fun p e s m args below meth c C hml hr hnm => ?_)
  unfold w_X7_within at hw
  refine aw_iload_n (pc := 0) C dX7_within_0 rfl rfl ?_
  refine aw_iload_n (pc := 1) C dX7_within_1 rfl rfl ?_
  obtain ⟨k_15, hk_15, hw⟩ := jn_out hw
  have J_15 : ∀ (t0_15 : Int) (h_15 : AH), k_15 t0_15 h_15 → AW G p l e ({ frames := 0, cells := 0, slots := 0, locals := 0 } : Room) s m args below meth c 0 0 (MQ below (QG G (oI Q)) args s 0 0 (frA G)) 15 (eOf []) [vI t0_15] h_15 := by
    intro t0_15 h_15 hw
    rw [hk_15] at hw
    obtain ⟨hp9, hw⟩ := hw
    exact aw_zret (pc := 15) C hr dX7_within_15 ⟨Nat.le_of_ble_eq_true rfl, Nat.le_of_ble_eq_true rfl⟩ hp9 ⟨_, rfl, hw⟩
  obtain ⟨k_14, hk_14, hw⟩ := jn_out hw
  have J_14 : ∀  (h_14 : AH), k_14  h_14 → AW G p l e ({ frames := 0, cells := 0, slots := 0, locals := 0 } : Room) s m args below meth c 0 0 (MQ below (QG G (oI Q)) args s 0 0 (frA G)) 14 (eOf []) [] h_14 := by
    intro  h_14 hw
    rw [hk_14] at hw
    refine aw_iconst (pc := 14) C dX7_within_14 (i := (0 : Int)) (by decide) ?_
    refine aw_sub [] trivial ?_
    exact J_15 _ _ hw
  refine aw_icmp_lt (pc := 2) (tgt := 14) C dX7_within_2 (by decide) (fun hc9 => ?_) (fun hc9 => ?_)
  · have hw := hw.1 hc9
    refine aw_sub [] trivial ?_
    exact J_14  _ hw
  · have hw := hw.2 hc9
    refine aw_iload_n (pc := 5) C dX7_within_5 rfl rfl ?_
    refine aw_iload_n (pc := 6) C dX7_within_6 rfl rfl ?_
    refine aw_icmp_gt (pc := 7) (tgt := 14) C dX7_within_7 (by decide) (fun hc9 => ?_) (fun hc9 => ?_)
    · have hw := hw.1 hc9
      refine aw_sub [] trivial ?_
      exact J_14  _ hw
    · have hw := hw.2 hc9
      refine aw_iconst (pc := 10) C dX7_within_10 (i := (1 : Int)) (by decide) ?_
      refine aw_goto (pc := 11) (tgt := 15) C dX7_within_11 (by decide) ?_
      refine aw_sub [] trivial ?_
      exact J_15 _ _ hw
theorem dX7_isValue_0 : decode cX7_isValue 0 = .ok (.iload_n 0, 1) := by decide +kernel
theorem dX7_isValue_1 : decode cX7_isValue 1 = .ok (.tableswitch 78 0 5 #[39, 47, 47, 56, 63, 70], 39) := by decide +kernel
theorem dX7_isValue_40 : decode cX7_isValue 40 = .ok (.iload_n 1, 1) := by decide +kernel
theorem dX7_isValue_41 : decode cX7_isValue 41 = .ok (.iconst 1, 1) := by decide +kernel
theorem dX7_isValue_42 : decode cX7_isValue 42 = .ok (.bipush 9, 2) := by decide +kernel
theorem dX7_isValue_44 : decode cX7_isValue 44 = .ok (.invokestatic 65, 3) := by decide +kernel
theorem dX7_isValue_47 : decode cX7_isValue 47 = .ok (.ireturn, 1) := by decide +kernel
theorem dX7_isValue_48 : decode cX7_isValue 48 = .ok (.iload_n 1, 1) := by decide +kernel
theorem dX7_isValue_49 : decode cX7_isValue 49 = .ok (.iconst 0, 1) := by decide +kernel
theorem dX7_isValue_50 : decode cX7_isValue 50 = .ok (.sipush 200, 3) := by decide +kernel
theorem dX7_isValue_53 : decode cX7_isValue 53 = .ok (.invokestatic 65, 3) := by decide +kernel
theorem dX7_isValue_56 : decode cX7_isValue 56 = .ok (.ireturn, 1) := by decide +kernel
theorem dX7_isValue_57 : decode cX7_isValue 57 = .ok (.iload_n 1, 1) := by decide +kernel
theorem dX7_isValue_58 : decode cX7_isValue 58 = .ok (.iconst 0, 1) := by decide +kernel
theorem dX7_isValue_59 : decode cX7_isValue 59 = .ok (.iconst 1, 1) := by decide +kernel
theorem dX7_isValue_60 : decode cX7_isValue 60 = .ok (.invokestatic 65, 3) := by decide +kernel
theorem dX7_isValue_63 : decode cX7_isValue 63 = .ok (.ireturn, 1) := by decide +kernel
theorem dX7_isValue_64 : decode cX7_isValue 64 = .ok (.iload_n 1, 1) := by decide +kernel
theorem dX7_isValue_65 : decode cX7_isValue 65 = .ok (.iconst 0, 1) := by decide +kernel
theorem dX7_isValue_66 : decode cX7_isValue 66 = .ok (.iconst 2, 1) := by decide +kernel
theorem dX7_isValue_67 : decode cX7_isValue 67 = .ok (.invokestatic 65, 3) := by decide +kernel
theorem dX7_isValue_70 : decode cX7_isValue 70 = .ok (.ireturn, 1) := by decide +kernel
theorem dX7_isValue_71 : decode cX7_isValue 71 = .ok (.iload_n 1, 1) := by decide +kernel
theorem dX7_isValue_72 : decode cX7_isValue 72 = .ok (.iconst 0, 1) := by decide +kernel
theorem dX7_isValue_73 : decode cX7_isValue 73 = .ok (.bipush 9, 2) := by decide +kernel
theorem dX7_isValue_75 : decode cX7_isValue 75 = .ok (.invokestatic 65, 3) := by decide +kernel
theorem dX7_isValue_78 : decode cX7_isValue 78 = .ok (.ireturn, 1) := by decide +kernel
theorem dX7_isValue_79 : decode cX7_isValue 79 = .ok (.iload_n 1, 1) := by decide +kernel
theorem dX7_isValue_80 : decode cX7_isValue 80 = .ok (.iconst 0, 1) := by decide +kernel
theorem dX7_isValue_81 : decode cX7_isValue 81 = .ok (.bipush 20, 2) := by decide +kernel
theorem dX7_isValue_83 : decode cX7_isValue 83 = .ok (.invokestatic 65, 3) := by decide +kernel
theorem dX7_isValue_86 : decode cX7_isValue 86 = .ok (.ireturn, 1) := by decide +kernel
theorem pd_X7_isValue : (parseMethodDescriptor yX7_isValue.desc).map (fun d => d.parameters.length) = some 2 := by decide +kernel
def w_X7_isValue (zz : Nat → Nat) (a0 : Int) (a1 : Int) (h : AH) (Q : Int → AH → Prop) : Prop := (a0 = 0 → w_X7_within zz a1 (1 : Int) (9 : Int) h (fun (r44 : Int) (h44 : AH) => (r44 = 0 ∨ r44 = 1) ∧ Q r44 h44)) ∧ (a0 = 1 → w_X7_within zz a1 (0 : Int) (200 : Int) h (fun (r53 : Int) (h53 : AH) => (r53 = 0 ∨ r53 = 1) ∧ Q r53 h53)) ∧ (a0 = 2 → w_X7_within zz a1 (0 : Int) (200 : Int) h (fun (r53 : Int) (h53 : AH) => (r53 = 0 ∨ r53 = 1) ∧ Q r53 h53)) ∧ (a0 = 3 → w_X7_within zz a1 (0 : Int) (1 : Int) h (fun (r60 : Int) (h60 : AH) => (r60 = 0 ∨ r60 = 1) ∧ Q r60 h60)) ∧ (a0 = 4 → w_X7_within zz a1 (0 : Int) (2 : Int) h (fun (r67 : Int) (h67 : AH) => (r67 = 0 ∨ r67 = 1) ∧ Q r67 h67)) ∧ (a0 = 5 → w_X7_within zz a1 (0 : Int) (9 : Int) h (fun (r75 : Int) (h75 : AH) => (r75 = 0 ∨ r75 = 1) ∧ Q r75 h75)) ∧ ((a0 < 0 ∨ 5 < a0) → w_X7_within zz a1 (0 : Int) (20 : Int) h (fun (r83 : Int) (h83 : AH) => (r83 = 0 ∨ r83 = 1) ∧ Q r83 h83))
set_option maxRecDepth 100000 in
set_option maxHeartbeats 4000000 in
theorem met_X7_isValue (G : GG) (l : Launch) : ∀ (As : List Value) (a0 : Int) (a1 : Int) (h : AH) (Q : Int → AH → Prop), As.map ab = List.map some ([vI a0, vI a1] : List AV) → w_X7_isValue G.2.2 a0 a1 h Q → Met l yX7_isValue (.code yX7_isValue cX7_isValue 2 (some .boolean) :: xTb) ({ frames := 1, cells := 0, slots := 0, locals := 22 } : Room) (PcA G As h) (QG G (oI Q)) 0 0 (frA G) := by
  intro As a0 a1 h Q hA hw
  refine met_of hA (by decide) (Nat.le_of_ble_eq_true rfl) (fun p e s m args below meth c C hml hr hnm => ?_)
  unfold w_X7_isValue at hw
  refine aw_iload_n (pc := 0) C dX7_isValue_0 rfl rfl ?_
  have hcs9 : a0 = 0 ∨ a0 = 1 ∨ a0 = 2 ∨ a0 = 3 ∨ a0 = 4 ∨ a0 = 5 ∨ (a0 < 0 ∨ 5 < a0) := by omega
  rcases hcs9 with hc9 | hc9 | hc9 | hc9 | hc9 | hc9 | hc9
  · have hw := hw.1 hc9
    refine aw_tableIn (pc := 1) (off := 39) (tgt := 40) C dX7_isValue_1 (by omega) (by omega) (by rw [hc9]; rfl) (by decide) ?_
    refine aw_iload_n (pc := 40) C dX7_isValue_40 rfl rfl ?_
    refine aw_iconst (pc := 41) C dX7_isValue_41 (i := (1 : Int)) (by decide) ?_
    refine aw_bipush (pc := 42) C dX7_isValue_42 (i := (9 : Int)) (by decide) ?_
    refine aw_callS (pc := 44) (as := [vI a1, vI (1 : Int), vI (9 : Int)]) C (fun As hA => met_X7_within G l As a1 (1 : Int) (9 : Int) _ _ hA hw) tw883 tw884 tw10 tw885 ⟨rfl, rfl⟩ ⟨by decide, by decide, pd_X7_within⟩ ⟨Nat.le_of_ble_eq_true rfl, Nat.le_of_ble_eq_true rfl⟩ ⟨Nat.zero_le _, Nat.zero_le _⟩ (Nat.le_of_ble_eq_true rfl) dX7_isValue_44 rfl (fun v9 h44 hq9 => ?_)
    obtain ⟨r44, rfl, hw⟩ := hq9
    obtain ⟨hp9, hw⟩ := hw
    exact aw_zret (pc := 47) C hr dX7_isValue_47 ⟨Nat.le_of_ble_eq_true rfl, Nat.le_of_ble_eq_true rfl⟩ hp9 ⟨_, rfl, hw⟩
  · have hw := hw.2.1 hc9
    refine aw_tableIn (pc := 1) (off := 47) (tgt := 48) C dX7_isValue_1 (by omega) (by omega) (by rw [hc9]; rfl) (by decide) ?_
    refine aw_iload_n (pc := 48) C dX7_isValue_48 rfl rfl ?_
    refine aw_iconst (pc := 49) C dX7_isValue_49 (i := (0 : Int)) (by decide) ?_
    refine aw_sipush (pc := 50) C dX7_isValue_50 (i := (200 : Int)) (by decide) ?_
    refine aw_callS (pc := 53) (as := [vI a1, vI (0 : Int), vI (200 : Int)]) C (fun As hA => met_X7_within G l As a1 (0 : Int) (200 : Int) _ _ hA hw) tw883 tw884 tw10 tw885 ⟨rfl, rfl⟩ ⟨by decide, by decide, pd_X7_within⟩ ⟨Nat.le_of_ble_eq_true rfl, Nat.le_of_ble_eq_true rfl⟩ ⟨Nat.zero_le _, Nat.zero_le _⟩ (Nat.le_of_ble_eq_true rfl) dX7_isValue_53 rfl (fun v9 h53 hq9 => ?_)
    obtain ⟨r53, rfl, hw⟩ := hq9
    obtain ⟨hp9, hw⟩ := hw
    exact aw_zret (pc := 56) C hr dX7_isValue_56 ⟨Nat.le_of_ble_eq_true rfl, Nat.le_of_ble_eq_true rfl⟩ hp9 ⟨_, rfl, hw⟩
  · have hw := hw.2.2.1 hc9
    refine aw_tableIn (pc := 1) (off := 47) (tgt := 48) C dX7_isValue_1 (by omega) (by omega) (by rw [hc9]; rfl) (by decide) ?_
    refine aw_iload_n (pc := 48) C dX7_isValue_48 rfl rfl ?_
    refine aw_iconst (pc := 49) C dX7_isValue_49 (i := (0 : Int)) (by decide) ?_
    refine aw_sipush (pc := 50) C dX7_isValue_50 (i := (200 : Int)) (by decide) ?_
    refine aw_callS (pc := 53) (as := [vI a1, vI (0 : Int), vI (200 : Int)]) C (fun As hA => met_X7_within G l As a1 (0 : Int) (200 : Int) _ _ hA hw) tw883 tw884 tw10 tw885 ⟨rfl, rfl⟩ ⟨by decide, by decide, pd_X7_within⟩ ⟨Nat.le_of_ble_eq_true rfl, Nat.le_of_ble_eq_true rfl⟩ ⟨Nat.zero_le _, Nat.zero_le _⟩ (Nat.le_of_ble_eq_true rfl) dX7_isValue_53 rfl (fun v9 h53 hq9 => ?_)
    obtain ⟨r53, rfl, hw⟩ := hq9
    obtain ⟨hp9, hw⟩ := hw
    exact aw_zret (pc := 56) C hr dX7_isValue_56 ⟨Nat.le_of_ble_eq_true rfl, Nat.le_of_ble_eq_true rfl⟩ hp9 ⟨_, rfl, hw⟩
  · have hw := hw.2.2.2.1 hc9
    refine aw_tableIn (pc := 1) (off := 56) (tgt := 57) C dX7_isValue_1 (by omega) (by omega) (by rw [hc9]; rfl) (by decide) ?_
    refine aw_iload_n (pc := 57) C dX7_isValue_57 rfl rfl ?_
    refine aw_iconst (pc := 58) C dX7_isValue_58 (i := (0 : Int)) (by decide) ?_
    refine aw_iconst (pc := 59) C dX7_isValue_59 (i := (1 : Int)) (by decide) ?_
    refine aw_callS (pc := 60) (as := [vI a1, vI (0 : Int), vI (1 : Int)]) C (fun As hA => met_X7_within G l As a1 (0 : Int) (1 : Int) _ _ hA hw) tw883 tw884 tw10 tw885 ⟨rfl, rfl⟩ ⟨by decide, by decide, pd_X7_within⟩ ⟨Nat.le_of_ble_eq_true rfl, Nat.le_of_ble_eq_true rfl⟩ ⟨Nat.zero_le _, Nat.zero_le _⟩ (Nat.le_of_ble_eq_true rfl) dX7_isValue_60 rfl (fun v9 h60 hq9 => ?_)
    obtain ⟨r60, rfl, hw⟩ := hq9
    obtain ⟨hp9, hw⟩ := hw
    exact aw_zret (pc := 63) C hr dX7_isValue_63 ⟨Nat.le_of_ble_eq_true rfl, Nat.le_of_ble_eq_true rfl⟩ hp9 ⟨_, rfl, hw⟩
  · have hw := hw.2.2.2.2.1 hc9
    refine aw_tableIn (pc := 1) (off := 63) (tgt := 64) C dX7_isValue_1 (by omega) (by omega) (by rw [hc9]; rfl) (by decide) ?_
    refine aw_iload_n (pc := 64) C dX7_isValue_64 rfl rfl ?_
    refine aw_iconst (pc := 65) C dX7_isValue_65 (i := (0 : Int)) (by decide) ?_
    refine aw_iconst (pc := 66) C dX7_isValue_66 (i := (2 : Int)) (by decide) ?_
    refine aw_callS (pc := 67) (as := [vI a1, vI (0 : Int), vI (2 : Int)]) C (fun As hA => met_X7_within G l As a1 (0 : Int) (2 : Int) _ _ hA hw) tw883 tw884 tw10 tw885 ⟨rfl, rfl⟩ ⟨by decide, by decide, pd_X7_within⟩ ⟨Nat.le_of_ble_eq_true rfl, Nat.le_of_ble_eq_true rfl⟩ ⟨Nat.zero_le _, Nat.zero_le _⟩ (Nat.le_of_ble_eq_true rfl) dX7_isValue_67 rfl (fun v9 h67 hq9 => ?_)
    obtain ⟨r67, rfl, hw⟩ := hq9
    obtain ⟨hp9, hw⟩ := hw
    exact aw_zret (pc := 70) C hr dX7_isValue_70 ⟨Nat.le_of_ble_eq_true rfl, Nat.le_of_ble_eq_true rfl⟩ hp9 ⟨_, rfl, hw⟩
  · have hw := hw.2.2.2.2.2.1 hc9
    refine aw_tableIn (pc := 1) (off := 70) (tgt := 71) C dX7_isValue_1 (by omega) (by omega) (by rw [hc9]; rfl) (by decide) ?_
    refine aw_iload_n (pc := 71) C dX7_isValue_71 rfl rfl ?_
    refine aw_iconst (pc := 72) C dX7_isValue_72 (i := (0 : Int)) (by decide) ?_
    refine aw_bipush (pc := 73) C dX7_isValue_73 (i := (9 : Int)) (by decide) ?_
    refine aw_callS (pc := 75) (as := [vI a1, vI (0 : Int), vI (9 : Int)]) C (fun As hA => met_X7_within G l As a1 (0 : Int) (9 : Int) _ _ hA hw) tw883 tw884 tw10 tw885 ⟨rfl, rfl⟩ ⟨by decide, by decide, pd_X7_within⟩ ⟨Nat.le_of_ble_eq_true rfl, Nat.le_of_ble_eq_true rfl⟩ ⟨Nat.zero_le _, Nat.zero_le _⟩ (Nat.le_of_ble_eq_true rfl) dX7_isValue_75 rfl (fun v9 h75 hq9 => ?_)
    obtain ⟨r75, rfl, hw⟩ := hq9
    obtain ⟨hp9, hw⟩ := hw
    exact aw_zret (pc := 78) C hr dX7_isValue_78 ⟨Nat.le_of_ble_eq_true rfl, Nat.le_of_ble_eq_true rfl⟩ hp9 ⟨_, rfl, hw⟩
  · have hw := hw.2.2.2.2.2.2 hc9
    refine aw_tableOut (pc := 1) (tgt := 79) C dX7_isValue_1 hc9 (by decide) ?_
    refine aw_iload_n (pc := 79) C dX7_isValue_79 rfl rfl ?_
    refine aw_iconst (pc := 80) C dX7_isValue_80 (i := (0 : Int)) (by decide) ?_
    refine aw_bipush (pc := 81) C dX7_isValue_81 (i := (20 : Int)) (by decide) ?_
    refine aw_callS (pc := 83) (as := [vI a1, vI (0 : Int), vI (20 : Int)]) C (fun As hA => met_X7_within G l As a1 (0 : Int) (20 : Int) _ _ hA hw) tw883 tw884 tw10 tw885 ⟨rfl, rfl⟩ ⟨by decide, by decide, pd_X7_within⟩ ⟨Nat.le_of_ble_eq_true rfl, Nat.le_of_ble_eq_true rfl⟩ ⟨Nat.zero_le _, Nat.zero_le _⟩ (Nat.le_of_ble_eq_true rfl) dX7_isValue_83 rfl (fun v9 h83 hq9 => ?_)
    obtain ⟨r83, rfl, hw⟩ := hq9
    obtain ⟨hp9, hw⟩ := hw
    exact aw_zret (pc := 86) C hr dX7_isValue_86 ⟨Nat.le_of_ble_eq_true rfl, Nat.le_of_ble_eq_true rfl⟩ hp9 ⟨_, rfl, hw⟩
theorem dX1_letterProperty_0 : decode cX1_letterProperty 0 = .ok (.iload_n 1, 1) := by decide +kernel
theorem dX1_letterProperty_1 : decode cX1_letterProperty 1 = .ok (.ifCond .ne 15, 3) := by decide +kernel
theorem dX1_letterProperty_4 : decode cX1_letterProperty 4 = .ok (.aload_n 0, 1) := by decide +kernel
theorem dX1_letterProperty_5 : decode cX1_letterProperty 5 = .ok (.getfield 40, 3) := by decide +kernel
theorem dX1_letterProperty_8 : decode cX1_letterProperty 8 = .ok (.getfield 95, 3) := by decide +kernel
theorem dX1_letterProperty_11 : decode cX1_letterProperty 11 = .ok (.iload_n 2, 1) := by decide +kernel
theorem dX1_letterProperty_12 : decode cX1_letterProperty 12 = .ok (.iaload, 1) := by decide +kernel
theorem dX1_letterProperty_13 : decode cX1_letterProperty 13 = .ok (.goto 12, 3) := by decide +kernel
theorem dX1_letterProperty_16 : decode cX1_letterProperty 16 = .ok (.aload_n 0, 1) := by decide +kernel
theorem dX1_letterProperty_17 : decode cX1_letterProperty 17 = .ok (.getfield 40, 3) := by decide +kernel
theorem dX1_letterProperty_20 : decode cX1_letterProperty 20 = .ok (.getfield 98, 3) := by decide +kernel
theorem dX1_letterProperty_23 : decode cX1_letterProperty 23 = .ok (.iload_n 2, 1) := by decide +kernel
theorem dX1_letterProperty_24 : decode cX1_letterProperty 24 = .ok (.iaload, 1) := by decide +kernel
theorem dX1_letterProperty_25 : decode cX1_letterProperty 25 = .ok (.istore 4, 2) := by decide +kernel
theorem dX1_letterProperty_27 : decode cX1_letterProperty 27 = .ok (.iload_n 3, 1) := by decide +kernel
theorem dX1_letterProperty_28 : decode cX1_letterProperty 28 = .ok (.tableswitch 104 0 4 #[36, 49, 62, 75, 78], 36) := by decide +kernel
theorem dX1_letterProperty_64 : decode cX1_letterProperty 64 = .ok (.aload_n 0, 1) := by decide +kernel
theorem dX1_letterProperty_65 : decode cX1_letterProperty 65 = .ok (.getfield 31, 3) := by decide +kernel
theorem dX1_letterProperty_68 : decode cX1_letterProperty 68 = .ok (.iload_n 1, 1) := by decide +kernel
theorem dX1_letterProperty_69 : decode cX1_letterProperty 69 = .ok (.invokevirtual 65, 3) := by decide +kernel
theorem dX1_letterProperty_72 : decode cX1_letterProperty 72 = .ok (.iload_n 2, 1) := by decide +kernel
theorem dX1_letterProperty_73 : decode cX1_letterProperty 73 = .ok (.invokevirtual 101, 3) := by decide +kernel
theorem dX1_letterProperty_76 : decode cX1_letterProperty 76 = .ok (.ireturn, 1) := by decide +kernel
theorem dX1_letterProperty_77 : decode cX1_letterProperty 77 = .ok (.aload_n 0, 1) := by decide +kernel
theorem dX1_letterProperty_78 : decode cX1_letterProperty 78 = .ok (.getfield 31, 3) := by decide +kernel
theorem dX1_letterProperty_81 : decode cX1_letterProperty 81 = .ok (.iload_n 1, 1) := by decide +kernel
theorem dX1_letterProperty_82 : decode cX1_letterProperty 82 = .ok (.invokevirtual 65, 3) := by decide +kernel
theorem dX1_letterProperty_85 : decode cX1_letterProperty 85 = .ok (.iload_n 2, 1) := by decide +kernel
theorem dX1_letterProperty_86 : decode cX1_letterProperty 86 = .ok (.invokevirtual 105, 3) := by decide +kernel
theorem dX1_letterProperty_89 : decode cX1_letterProperty 89 = .ok (.ireturn, 1) := by decide +kernel
theorem dX1_letterProperty_90 : decode cX1_letterProperty 90 = .ok (.aload_n 0, 1) := by decide +kernel
theorem dX1_letterProperty_91 : decode cX1_letterProperty 91 = .ok (.getfield 31, 3) := by decide +kernel
theorem dX1_letterProperty_94 : decode cX1_letterProperty 94 = .ok (.iload_n 1, 1) := by decide +kernel
theorem dX1_letterProperty_95 : decode cX1_letterProperty 95 = .ok (.invokevirtual 65, 3) := by decide +kernel
theorem dX1_letterProperty_98 : decode cX1_letterProperty 98 = .ok (.iload_n 2, 1) := by decide +kernel
theorem dX1_letterProperty_99 : decode cX1_letterProperty 99 = .ok (.invokevirtual 108, 3) := by decide +kernel
theorem dX1_letterProperty_102 : decode cX1_letterProperty 102 = .ok (.ireturn, 1) := by decide +kernel
theorem dX1_letterProperty_103 : decode cX1_letterProperty 103 = .ok (.iload 4, 2) := by decide +kernel
theorem dX1_letterProperty_105 : decode cX1_letterProperty 105 = .ok (.ireturn, 1) := by decide +kernel
theorem dX1_letterProperty_106 : decode cX1_letterProperty 106 = .ok (.iload_n 1, 1) := by decide +kernel
theorem dX1_letterProperty_107 : decode cX1_letterProperty 107 = .ok (.ifCond .ne 15, 3) := by decide +kernel
theorem dX1_letterProperty_110 : decode cX1_letterProperty 110 = .ok (.aload_n 0, 1) := by decide +kernel
theorem dX1_letterProperty_111 : decode cX1_letterProperty 111 = .ok (.getfield 40, 3) := by decide +kernel
theorem dX1_letterProperty_114 : decode cX1_letterProperty 114 = .ok (.getfield 74, 3) := by decide +kernel
theorem dX1_letterProperty_117 : decode cX1_letterProperty 117 = .ok (.iload_n 2, 1) := by decide +kernel
theorem dX1_letterProperty_118 : decode cX1_letterProperty 118 = .ok (.iaload, 1) := by decide +kernel
theorem dX1_letterProperty_119 : decode cX1_letterProperty 119 = .ok (.goto 12, 3) := by decide +kernel
theorem dX1_letterProperty_122 : decode cX1_letterProperty 122 = .ok (.aload_n 0, 1) := by decide +kernel
theorem dX1_letterProperty_123 : decode cX1_letterProperty 123 = .ok (.getfield 40, 3) := by decide +kernel
theorem dX1_letterProperty_126 : decode cX1_letterProperty 126 = .ok (.getfield 80, 3) := by decide +kernel
theorem dX1_letterProperty_129 : decode cX1_letterProperty 129 = .ok (.iload_n 2, 1) := by decide +kernel
theorem dX1_letterProperty_130 : decode cX1_letterProperty 130 = .ok (.iaload, 1) := by decide +kernel
theorem dX1_letterProperty_131 : decode cX1_letterProperty 131 = .ok (.ireturn, 1) := by decide +kernel
theorem dX1_letterProperty_132 : decode cX1_letterProperty 132 = .ok (.iload 4, 2) := by decide +kernel
theorem dX1_letterProperty_134 : decode cX1_letterProperty 134 = .ok (.iconst (-1), 1) := by decide +kernel
theorem dX1_letterProperty_135 : decode cX1_letterProperty 135 = .ok (.if_icmp .ne 5, 3) := by decide +kernel
theorem dX1_letterProperty_138 : decode cX1_letterProperty 138 = .ok (.iconst 0, 1) := by decide +kernel
theorem dX1_letterProperty_139 : decode cX1_letterProperty 139 = .ok (.ireturn, 1) := by decide +kernel
theorem dX1_letterProperty_140 : decode cX1_letterProperty 140 = .ok (.iload_n 1, 1) := by decide +kernel
theorem dX1_letterProperty_141 : decode cX1_letterProperty 141 = .ok (.ifCond .ne 16, 3) := by decide +kernel
theorem dX1_letterProperty_144 : decode cX1_letterProperty 144 = .ok (.aload_n 0, 1) := by decide +kernel
theorem dX1_letterProperty_145 : decode cX1_letterProperty 145 = .ok (.getfield 40, 3) := by decide +kernel
theorem dX1_letterProperty_148 : decode cX1_letterProperty 148 = .ok (.iload_n 2, 1) := by decide +kernel
theorem dX1_letterProperty_149 : decode cX1_letterProperty 149 = .ok (.iload 4, 2) := by decide +kernel
theorem dX1_letterProperty_151 : decode cX1_letterProperty 151 = .ok (.invokevirtual 111, 3) := by decide +kernel
theorem dX1_letterProperty_154 : decode cX1_letterProperty 154 = .ok (.goto 13, 3) := by decide +kernel
theorem dX1_letterProperty_157 : decode cX1_letterProperty 157 = .ok (.aload_n 0, 1) := by decide +kernel
theorem dX1_letterProperty_158 : decode cX1_letterProperty 158 = .ok (.getfield 40, 3) := by decide +kernel
theorem dX1_letterProperty_161 : decode cX1_letterProperty 161 = .ok (.iload 4, 2) := by decide +kernel
theorem dX1_letterProperty_163 : decode cX1_letterProperty 163 = .ok (.iload_n 2, 1) := by decide +kernel
theorem dX1_letterProperty_164 : decode cX1_letterProperty 164 = .ok (.invokevirtual 111, 3) := by decide +kernel
theorem dX1_letterProperty_167 : decode cX1_letterProperty 167 = .ok (.ireturn, 1) := by decide +kernel
theorem pd_X1_letterProperty : (parseMethodDescriptor yX1_letterProperty.desc).map (fun d => d.parameters.length) = some 3 := by decide +kernel
def w_X1_letterProperty (zz : Nat → Nat) (a0 : Nat) (a1 : Int) (a2 : Int) (a3 : Int) (h : AH) (Q : Int → AH → Prop) : Prop := jn (fun (t0_25 : Int) (h_25 : AH) => (a3 = 0 → okA h_25 a0 1 ∧ ∃ b65 : Nat, hfR h_25 a0 2 = some b65 ∧ okA h_25 b65 4 ∧ w_X4_text zz b65 a1 h_25 (fun (r69 : Nat) (h69 : AH) => okA h69 r69 5 ∧ w_X5_rowOf zz r69 a2 h69 (fun (r73 : Int) (h73 : AH) => Q r73 h73))) ∧ (a3 = 1 → okA h_25 a0 1 ∧ ∃ b78 : Nat, hfR h_25 a0 2 = some b78 ∧ okA h_25 b78 4 ∧ w_X4_text zz b78 a1 h_25 (fun (r82 : Nat) (h82 : AH) => okA h82 r82 5 ∧ w_X5_columnOf zz r82 a2 h82 (fun (r86 : Int) (h86 : AH) => Q r86 h86))) ∧ (a3 = 2 → okA h_25 a0 1 ∧ ∃ b91 : Nat, hfR h_25 a0 2 = some b91 ∧ okA h_25 b91 4 ∧ w_X4_text zz b91 a1 h_25 (fun (r95 : Nat) (h95 : AH) => okA h95 r95 5 ∧ w_X5_codeOf zz r95 a2 h95 (fun (r99 : Int) (h99 : AH) => Q r99 h99))) ∧ (a3 = 3 → Q t0_25 h_25) ∧ (a3 = 4 → jn (fun (t0_131 : Int) (h_131 : AH) => Q t0_131 h_131) (fun k_131 : Int → AH → Prop => ((¬ a1 = 0) → okA h_25 a0 1 ∧ ∃ b123 : Nat, hfR h_25 a0 0 = some b123 ∧ okA h_25 b123 3 ∧ ∃ b126 : Nat, hfR h_25 b123 3 = some b126 ∧ okI h_25 b126 a2 ∧ k_131 (haI h_25 b126 a2) h_25) ∧ ((a1 = 0) → okA h_25 a0 1 ∧ ∃ b111 : Nat, hfR h_25 a0 0 = some b111 ∧ okA h_25 b111 3 ∧ ∃ b114 : Nat, hfR h_25 b111 2 = some b114 ∧ okI h_25 b114 a2 ∧ k_131 (haI h_25 b114 a2) h_25))) ∧ ((a3 < 0 ∨ 4 < a3) → ((¬ t0_25 = (-1 : Int)) → jn (fun (t0_167 : Int) (h_167 : AH) => Q t0_167 h_167) (fun k_167 : Int → AH → Prop => ((¬ a1 = 0) → okA h_25 a0 1 ∧ ∃ b158 : Nat, hfR h_25 a0 0 = some b158 ∧ okA h_25 b158 3 ∧ w_X3_distance zz b158 t0_25 a2 h_25 (fun (r164 : Int) (h164 : AH) => k_167 r164 h164)) ∧ ((a1 = 0) → okA h_25 a0 1 ∧ ∃ b145 : Nat, hfR h_25 a0 0 = some b145 ∧ okA h_25 b145 3 ∧ w_X3_distance zz b145 a2 t0_25 h_25 (fun (r151 : Int) (h151 : AH) => k_167 r151 h151)))) ∧ ((t0_25 = (-1 : Int)) → Q (0 : Int) h_25))) (fun k_25 : Int → AH → Prop => ((¬ a1 = 0) → okA h a0 1 ∧ ∃ b17 : Nat, hfR h a0 0 = some b17 ∧ okA h b17 3 ∧ ∃ b20 : Nat, hfR h b17 1 = some b20 ∧ okI h b20 a2 ∧ k_25 (haI h b20 a2) h) ∧ ((a1 = 0) → okA h a0 1 ∧ ∃ b5 : Nat, hfR h a0 0 = some b5 ∧ okA h b5 3 ∧ ∃ b8 : Nat, hfR h b5 0 = some b8 ∧ okI h b8 a2 ∧ k_25 (haI h b8 a2) h))
set_option maxRecDepth 100000 in
set_option maxHeartbeats 4000000 in
theorem met_X1_letterProperty (G : GG) (l : Launch) : ∀ (As : List Value) (a0 : Nat) (a1 : Int) (a2 : Int) (a3 : Int) (h : AH) (Q : Int → AH → Prop), As.map ab = List.map some ([vR a0, vI a1, vI a2, vI a3] : List AV) → w_X1_letterProperty G.2.2 a0 a1 a2 a3 h Q → Met l yX1_letterProperty (.code yX1_letterProperty cX1_letterProperty 5 (some .int) :: xTb) ({ frames := 2, cells := 0, slots := 0, locals := 45 } : Room) (PcA G As h) (QG G (oI Q)) 0 0 (frA G) := by
  intro As a0 a1 a2 a3 h Q hA hw
  refine met_of hA (by decide) (Nat.le_of_ble_eq_true rfl) (fun p e s m args below meth c C hml hr hnm => ?_)
  unfold w_X1_letterProperty at hw
  refine aw_iload_n (pc := 0) C dX1_letterProperty_0 rfl rfl ?_
  obtain ⟨k_25, hk_25, hw⟩ := jn_out hw
  have J_25 : ∀ (t0_25 : Int) (h_25 : AH), k_25 t0_25 h_25 → AW G p l e ({ frames := 2, cells := 0, slots := 0, locals := 45 } : Room) s m args below meth c 0 0 (MQ below (QG G (oI Q)) args s 0 0 (frA G)) 25 (eOf [(0, vR a0), (1, vI a1), (2, vI a2), (3, vI a3)]) [vI t0_25] h_25 := by
    intro t0_25 h_25 hw
    rw [hk_25] at hw
    refine aw_istore (pc := 25) C dX1_letterProperty_25 (by rw [hml]; decide) ?_
    refine aw_iload_n (pc := 27) C dX1_letterProperty_27 rfl rfl ?_
    have hcs9 : a3 = 0 ∨ a3 = 1 ∨ a3 = 2 ∨ a3 = 3 ∨ a3 = 4 ∨ (a3 < 0 ∨ 4 < a3) := by omega
    rcases hcs9 with hc9 | hc9 | hc9 | hc9 | hc9 | hc9
    · have hw := hw.1 hc9
      refine aw_tableIn (pc := 28) (off := 36) (tgt := 64) C dX1_letterProperty_28 (by omega) (by omega) (by rw [hc9]; rfl) (by decide) ?_
      refine aw_aload_n (pc := 64) C dX1_letterProperty_64 rfl rfl ?_
      obtain ⟨hp9, b65, hb9, hw⟩ := hw
      refine aw_getR (pc := 65) C (ci := 1) (k := 2) ci1 (by decide) tw177 dX1_letterProperty_65 rfl hp9 hb9 ?_
      refine aw_iload_n (pc := 68) C dX1_letterProperty_68 rfl rfl ?_
      obtain ⟨hp9, hw⟩ := hw
      refine aw_callV (pc := 69) (as := [vI a1]) C ci4 (fun As hA => met_X4_text G l As b65 a1 _ _ hA hw) tw381 tw266 tw267 tw2 tw268 ⟨rfl, rfl⟩ ⟨rfl, by decide, by decide, pd_X4_text⟩ ⟨Nat.le_of_ble_eq_true rfl, Nat.le_of_ble_eq_true rfl⟩ ⟨Nat.zero_le _, Nat.zero_le _⟩ (Nat.le_of_ble_eq_true rfl) dX1_letterProperty_69 rfl hp9 (fun v9 h69 hq9 => ?_)
      obtain ⟨r69, rfl, hw⟩ := hq9
      refine aw_iload_n (pc := 72) C dX1_letterProperty_72 rfl rfl ?_
      obtain ⟨hp9, hw⟩ := hw
      refine aw_callV (pc := 73) (as := [vI a2]) C ci5 (fun As hA => met_X5_rowOf G l As r69 a2 _ _ hA hw) tw443 tw335 tw336 tw3 tw337 ⟨rfl, rfl⟩ ⟨rfl, by decide, by decide, pd_X5_rowOf⟩ ⟨Nat.le_of_ble_eq_true rfl, Nat.le_of_ble_eq_true rfl⟩ ⟨Nat.zero_le _, Nat.zero_le _⟩ (Nat.le_of_ble_eq_true rfl) dX1_letterProperty_73 rfl hp9 (fun v9 h73 hq9 => ?_)
      obtain ⟨r73, rfl, hw⟩ := hq9
      exact aw_iret (pc := 76) C hr dX1_letterProperty_76 ⟨Nat.le_of_ble_eq_true rfl, Nat.le_of_ble_eq_true rfl⟩ ⟨_, rfl, hw⟩
    · have hw := hw.2.1 hc9
      refine aw_tableIn (pc := 28) (off := 49) (tgt := 77) C dX1_letterProperty_28 (by omega) (by omega) (by rw [hc9]; rfl) (by decide) ?_
      refine aw_aload_n (pc := 77) C dX1_letterProperty_77 rfl rfl ?_
      obtain ⟨hp9, b78, hb9, hw⟩ := hw
      refine aw_getR (pc := 78) C (ci := 1) (k := 2) ci1 (by decide) tw177 dX1_letterProperty_78 rfl hp9 hb9 ?_
      refine aw_iload_n (pc := 81) C dX1_letterProperty_81 rfl rfl ?_
      obtain ⟨hp9, hw⟩ := hw
      refine aw_callV (pc := 82) (as := [vI a1]) C ci4 (fun As hA => met_X4_text G l As b78 a1 _ _ hA hw) tw381 tw266 tw267 tw2 tw268 ⟨rfl, rfl⟩ ⟨rfl, by decide, by decide, pd_X4_text⟩ ⟨Nat.le_of_ble_eq_true rfl, Nat.le_of_ble_eq_true rfl⟩ ⟨Nat.zero_le _, Nat.zero_le _⟩ (Nat.le_of_ble_eq_true rfl) dX1_letterProperty_82 rfl hp9 (fun v9 h82 hq9 => ?_)
      obtain ⟨r82, rfl, hw⟩ := hq9
      refine aw_iload_n (pc := 85) C dX1_letterProperty_85 rfl rfl ?_
      obtain ⟨hp9, hw⟩ := hw
      refine aw_callV (pc := 86) (as := [vI a2]) C ci5 (fun As hA => met_X5_columnOf G l As r82 a2 _ _ hA hw) tw441 tw343 tw344 tw3 tw345 ⟨rfl, rfl⟩ ⟨rfl, by decide, by decide, pd_X5_columnOf⟩ ⟨Nat.le_of_ble_eq_true rfl, Nat.le_of_ble_eq_true rfl⟩ ⟨Nat.zero_le _, Nat.zero_le _⟩ (Nat.le_of_ble_eq_true rfl) dX1_letterProperty_86 rfl hp9 (fun v9 h86 hq9 => ?_)
      obtain ⟨r86, rfl, hw⟩ := hq9
      exact aw_iret (pc := 89) C hr dX1_letterProperty_89 ⟨Nat.le_of_ble_eq_true rfl, Nat.le_of_ble_eq_true rfl⟩ ⟨_, rfl, hw⟩
    · have hw := hw.2.2.1 hc9
      refine aw_tableIn (pc := 28) (off := 62) (tgt := 90) C dX1_letterProperty_28 (by omega) (by omega) (by rw [hc9]; rfl) (by decide) ?_
      refine aw_aload_n (pc := 90) C dX1_letterProperty_90 rfl rfl ?_
      obtain ⟨hp9, b91, hb9, hw⟩ := hw
      refine aw_getR (pc := 91) C (ci := 1) (k := 2) ci1 (by decide) tw177 dX1_letterProperty_91 rfl hp9 hb9 ?_
      refine aw_iload_n (pc := 94) C dX1_letterProperty_94 rfl rfl ?_
      obtain ⟨hp9, hw⟩ := hw
      refine aw_callV (pc := 95) (as := [vI a1]) C ci4 (fun As hA => met_X4_text G l As b91 a1 _ _ hA hw) tw381 tw266 tw267 tw2 tw268 ⟨rfl, rfl⟩ ⟨rfl, by decide, by decide, pd_X4_text⟩ ⟨Nat.le_of_ble_eq_true rfl, Nat.le_of_ble_eq_true rfl⟩ ⟨Nat.zero_le _, Nat.zero_le _⟩ (Nat.le_of_ble_eq_true rfl) dX1_letterProperty_95 rfl hp9 (fun v9 h95 hq9 => ?_)
      obtain ⟨r95, rfl, hw⟩ := hq9
      refine aw_iload_n (pc := 98) C dX1_letterProperty_98 rfl rfl ?_
      obtain ⟨hp9, hw⟩ := hw
      refine aw_callV (pc := 99) (as := [vI a2]) C ci5 (fun As hA => met_X5_codeOf G l As r95 a2 _ _ hA hw) tw456 tw312 tw313 tw3 tw314 ⟨rfl, rfl⟩ ⟨rfl, by decide, by decide, pd_X5_codeOf⟩ ⟨Nat.le_of_ble_eq_true rfl, Nat.le_of_ble_eq_true rfl⟩ ⟨Nat.zero_le _, Nat.zero_le _⟩ (Nat.le_of_ble_eq_true rfl) dX1_letterProperty_99 rfl hp9 (fun v9 h99 hq9 => ?_)
      obtain ⟨r99, rfl, hw⟩ := hq9
      exact aw_iret (pc := 102) C hr dX1_letterProperty_102 ⟨Nat.le_of_ble_eq_true rfl, Nat.le_of_ble_eq_true rfl⟩ ⟨_, rfl, hw⟩
    · have hw := hw.2.2.2.1 hc9
      refine aw_tableIn (pc := 28) (off := 75) (tgt := 103) C dX1_letterProperty_28 (by omega) (by omega) (by rw [hc9]; rfl) (by decide) ?_
      refine aw_iload (pc := 103) C dX1_letterProperty_103 rfl ?_
      exact aw_iret (pc := 105) C hr dX1_letterProperty_105 ⟨Nat.le_of_ble_eq_true rfl, Nat.le_of_ble_eq_true rfl⟩ ⟨_, rfl, hw⟩
    · have hw := hw.2.2.2.2.1 hc9
      refine aw_tableIn (pc := 28) (off := 78) (tgt := 106) C dX1_letterProperty_28 (by omega) (by omega) (by rw [hc9]; rfl) (by decide) ?_
      refine aw_iload_n (pc := 106) C dX1_letterProperty_106 rfl rfl ?_
      obtain ⟨k_131, hk_131, hw⟩ := jn_out hw
      have J_131 : ∀ (t0_131 : Int) (h_131 : AH), k_131 t0_131 h_131 → AW G p l e ({ frames := 2, cells := 0, slots := 0, locals := 45 } : Room) s m args below meth c 0 0 (MQ below (QG G (oI Q)) args s 0 0 (frA G)) 131 (eOf []) [vI t0_131] h_131 := by
        intro t0_131 h_131 hw
        rw [hk_131] at hw
        exact aw_iret (pc := 131) C hr dX1_letterProperty_131 ⟨Nat.le_of_ble_eq_true rfl, Nat.le_of_ble_eq_true rfl⟩ ⟨_, rfl, hw⟩
      refine aw_if_ne (pc := 107) (tgt := 122) C dX1_letterProperty_107 (by decide) (fun hc9 => ?_) (fun hc9 => ?_)
      · have hw := hw.1 hc9
        refine aw_aload_n (pc := 122) C dX1_letterProperty_122 rfl rfl ?_
        obtain ⟨hp9, b123, hb9, hw⟩ := hw
        refine aw_getR (pc := 123) C (ci := 1) (k := 0) ci1 (by decide) tw173 dX1_letterProperty_123 rfl hp9 hb9 ?_
        obtain ⟨hp9, b126, hb9, hw⟩ := hw
        refine aw_getR (pc := 126) C (ci := 3) (k := 3) ci3 (by decide) tw100 dX1_letterProperty_126 rfl hp9 hb9 ?_
        refine aw_iload_n (pc := 129) C dX1_letterProperty_129 rfl rfl ?_
        obtain ⟨⟨k9, hp9⟩, hw⟩ := hw
        refine aw_iald (pc := 130) C dX1_letterProperty_130 hp9 ?_
        refine aw_sub [] trivial ?_
        exact J_131 _ _ hw
      · have hw := hw.2 hc9
        refine aw_aload_n (pc := 110) C dX1_letterProperty_110 rfl rfl ?_
        obtain ⟨hp9, b111, hb9, hw⟩ := hw
        refine aw_getR (pc := 111) C (ci := 1) (k := 0) ci1 (by decide) tw173 dX1_letterProperty_111 rfl hp9 hb9 ?_
        obtain ⟨hp9, b114, hb9, hw⟩ := hw
        refine aw_getR (pc := 114) C (ci := 3) (k := 2) ci3 (by decide) tw98 dX1_letterProperty_114 rfl hp9 hb9 ?_
        refine aw_iload_n (pc := 117) C dX1_letterProperty_117 rfl rfl ?_
        obtain ⟨⟨k9, hp9⟩, hw⟩ := hw
        refine aw_iald (pc := 118) C dX1_letterProperty_118 hp9 ?_
        refine aw_goto (pc := 119) (tgt := 131) C dX1_letterProperty_119 (by decide) ?_
        refine aw_sub [] trivial ?_
        exact J_131 _ _ hw
    · have hw := hw.2.2.2.2.2 hc9
      refine aw_tableOut (pc := 28) (tgt := 132) C dX1_letterProperty_28 hc9 (by decide) ?_
      refine aw_iload (pc := 132) C dX1_letterProperty_132 rfl ?_
      refine aw_iconst (pc := 134) C dX1_letterProperty_134 (i := (-1 : Int)) (by decide) ?_
      refine aw_icmp_ne (pc := 135) (tgt := 140) C dX1_letterProperty_135 (by decide) (fun hc9 => ?_) (fun hc9 => ?_)
      · have hw := hw.1 hc9
        refine aw_iload_n (pc := 140) C dX1_letterProperty_140 rfl rfl ?_
        obtain ⟨k_167, hk_167, hw⟩ := jn_out hw
        have J_167 : ∀ (t0_167 : Int) (h_167 : AH), k_167 t0_167 h_167 → AW G p l e ({ frames := 2, cells := 0, slots := 0, locals := 45 } : Room) s m args below meth c 0 0 (MQ below (QG G (oI Q)) args s 0 0 (frA G)) 167 (eOf []) [vI t0_167] h_167 := by
          intro t0_167 h_167 hw
          rw [hk_167] at hw
          exact aw_iret (pc := 167) C hr dX1_letterProperty_167 ⟨Nat.le_of_ble_eq_true rfl, Nat.le_of_ble_eq_true rfl⟩ ⟨_, rfl, hw⟩
        refine aw_if_ne (pc := 141) (tgt := 157) C dX1_letterProperty_141 (by decide) (fun hc9 => ?_) (fun hc9 => ?_)
        · have hw := hw.1 hc9
          refine aw_aload_n (pc := 157) C dX1_letterProperty_157 rfl rfl ?_
          obtain ⟨hp9, b158, hb9, hw⟩ := hw
          refine aw_getR (pc := 158) C (ci := 1) (k := 0) ci1 (by decide) tw173 dX1_letterProperty_158 rfl hp9 hb9 ?_
          refine aw_iload (pc := 161) C dX1_letterProperty_161 rfl ?_
          refine aw_iload_n (pc := 163) C dX1_letterProperty_163 rfl rfl ?_
          obtain ⟨hp9, hw⟩ := hw
          refine aw_callV (pc := 164) (as := [vI t0_25, vI a2]) C ci3 (fun As hA => met_X3_distance G l As b158 t0_25 a2 _ _ hA hw) tw432 tw339 tw340 tw7 tw341 ⟨rfl, rfl⟩ ⟨rfl, by decide, by decide, pd_X3_distance⟩ ⟨Nat.le_of_ble_eq_true rfl, Nat.le_of_ble_eq_true rfl⟩ ⟨Nat.zero_le _, Nat.zero_le _⟩ (Nat.le_of_ble_eq_true rfl) dX1_letterProperty_164 rfl hp9 (fun v9 h164 hq9 => ?_)
          obtain ⟨r164, rfl, hw⟩ := hq9
          refine aw_sub [] trivial ?_
          exact J_167 _ _ hw
        · have hw := hw.2 hc9
          refine aw_aload_n (pc := 144) C dX1_letterProperty_144 rfl rfl ?_
          obtain ⟨hp9, b145, hb9, hw⟩ := hw
          refine aw_getR (pc := 145) C (ci := 1) (k := 0) ci1 (by decide) tw173 dX1_letterProperty_145 rfl hp9 hb9 ?_
          refine aw_iload_n (pc := 148) C dX1_letterProperty_148 rfl rfl ?_
          refine aw_iload (pc := 149) C dX1_letterProperty_149 rfl ?_
          obtain ⟨hp9, hw⟩ := hw
          refine aw_callV (pc := 151) (as := [vI a2, vI t0_25]) C ci3 (fun As hA => met_X3_distance G l As b145 a2 t0_25 _ _ hA hw) tw432 tw339 tw340 tw7 tw341 ⟨rfl, rfl⟩ ⟨rfl, by decide, by decide, pd_X3_distance⟩ ⟨Nat.le_of_ble_eq_true rfl, Nat.le_of_ble_eq_true rfl⟩ ⟨Nat.zero_le _, Nat.zero_le _⟩ (Nat.le_of_ble_eq_true rfl) dX1_letterProperty_151 rfl hp9 (fun v9 h151 hq9 => ?_)
          obtain ⟨r151, rfl, hw⟩ := hq9
          refine aw_goto (pc := 154) (tgt := 167) C dX1_letterProperty_154 (by decide) ?_
          refine aw_sub [] trivial ?_
          exact J_167 _ _ hw
      · have hw := hw.2 hc9
        refine aw_iconst (pc := 138) C dX1_letterProperty_138 (i := (0 : Int)) (by decide) ?_
        exact aw_iret (pc := 139) C hr dX1_letterProperty_139 ⟨Nat.le_of_ble_eq_true rfl, Nat.le_of_ble_eq_true rfl⟩ ⟨_, rfl, hw⟩
  refine aw_if_ne (pc := 1) (tgt := 16) C dX1_letterProperty_1 (by decide) (fun hc9 => ?_) (fun hc9 => ?_)
  · have hw := hw.1 hc9
    refine aw_aload_n (pc := 16) C dX1_letterProperty_16 rfl rfl ?_
    obtain ⟨hp9, b17, hb9, hw⟩ := hw
    refine aw_getR (pc := 17) C (ci := 1) (k := 0) ci1 (by decide) tw173 dX1_letterProperty_17 rfl hp9 hb9 ?_
    obtain ⟨hp9, b20, hb9, hw⟩ := hw
    refine aw_getR (pc := 20) C (ci := 3) (k := 1) ci3 (by decide) tw96 dX1_letterProperty_20 rfl hp9 hb9 ?_
    refine aw_iload_n (pc := 23) C dX1_letterProperty_23 rfl rfl ?_
    obtain ⟨⟨k9, hp9⟩, hw⟩ := hw
    refine aw_iald (pc := 24) C dX1_letterProperty_24 hp9 ?_
    refine aw_sub [(0, vR a0), (1, vI a1), (2, vI a2), (3, vI a3)] ⟨rfl, rfl, rfl, rfl, trivial⟩ ?_
    exact J_25 _ _ hw
  · have hw := hw.2 hc9
    refine aw_aload_n (pc := 4) C dX1_letterProperty_4 rfl rfl ?_
    obtain ⟨hp9, b5, hb9, hw⟩ := hw
    refine aw_getR (pc := 5) C (ci := 1) (k := 0) ci1 (by decide) tw173 dX1_letterProperty_5 rfl hp9 hb9 ?_
    obtain ⟨hp9, b8, hb9, hw⟩ := hw
    refine aw_getR (pc := 8) C (ci := 3) (k := 0) ci3 (by decide) tw93 dX1_letterProperty_8 rfl hp9 hb9 ?_
    refine aw_iload_n (pc := 11) C dX1_letterProperty_11 rfl rfl ?_
    obtain ⟨⟨k9, hp9⟩, hw⟩ := hw
    refine aw_iald (pc := 12) C dX1_letterProperty_12 hp9 ?_
    refine aw_goto (pc := 13) (tgt := 25) C dX1_letterProperty_13 (by decide) ?_
    refine aw_sub [(0, vR a0), (1, vI a1), (2, vI a2), (3, vI a3)] ⟨rfl, rfl, rfl, rfl, trivial⟩ ?_
    exact J_25 _ _ hw
end
